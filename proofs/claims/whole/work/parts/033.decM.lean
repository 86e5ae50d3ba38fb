theorem dX12_init_0 : decode cX12_init 0 = .ok (.aload_n 0, 1) := by decide +kernel
theorem dX12_init_1 : decode cX12_init 1 = .ok (.invokespecial 1, 3) := by decide +kernel
theorem dX12_init_4 : decode cX12_init 4 = .ok (.aload_n 0, 1) := by decide +kernel
theorem dX12_init_5 : decode cX12_init 5 = .ok (.sipush 216, 3) := by decide +kernel
theorem dX12_init_8 : decode cX12_init 8 = .ok (.newarray .int, 2) := by decide +kernel
theorem dX12_init_10 : decode cX12_init 10 = .ok (.putfield 7, 3) := by decide +kernel
theorem dX12_init_13 : decode cX12_init 13 = .ok (.aload_n 0, 1) := by decide +kernel
theorem dX12_init_14 : decode cX12_init 14 = .ok (.bipush 72, 2) := by decide +kernel
theorem dX12_init_16 : decode cX12_init 16 = .ok (.newarray .int, 2) := by decide +kernel
theorem dX12_init_18 : decode cX12_init 18 = .ok (.putfield 13, 3) := by decide +kernel
theorem dX12_init_21 : decode cX12_init 21 = .ok (.aload_n 0, 1) := by decide +kernel
theorem dX12_init_22 : decode cX12_init 22 = .ok (.sipush 720, 3) := by decide +kernel
theorem dX12_init_25 : decode cX12_init 25 = .ok (.newarray .int, 2) := by decide +kernel
theorem dX12_init_27 : decode cX12_init 27 = .ok (.putfield 16, 3) := by decide +kernel
theorem dX12_init_30 : decode cX12_init 30 = .ok (.aload_n 0, 1) := by decide +kernel
theorem dX12_init_31 : decode cX12_init 31 = .ok (.sipush 150, 3) := by decide +kernel
theorem dX12_init_34 : decode cX12_init 34 = .ok (.newarray .int, 2) := by decide +kernel
theorem dX12_init_36 : decode cX12_init 36 = .ok (.putfield 19, 3) := by decide +kernel
theorem dX12_init_39 : decode cX12_init 39 = .ok (.aload_n 0, 1) := by decide +kernel
theorem dX12_init_40 : decode cX12_init 40 = .ok (.sipush 720, 3) := by decide +kernel
theorem dX12_init_43 : decode cX12_init 43 = .ok (.newarray .boolean, 2) := by decide +kernel
theorem dX12_init_45 : decode cX12_init 45 = .ok (.putfield 22, 3) := by decide +kernel
theorem dX12_init_48 : decode cX12_init 48 = .ok (.aload_n 0, 1) := by decide +kernel
theorem dX12_init_49 : decode cX12_init 49 = .ok (.bipush 24, 2) := by decide +kernel
theorem dX12_init_51 : decode cX12_init 51 = .ok (.newarray .int, 2) := by decide +kernel
theorem dX12_init_53 : decode cX12_init 53 = .ok (.putfield 26, 3) := by decide +kernel
theorem dX12_init_56 : decode cX12_init 56 = .ok (.aload_n 0, 1) := by decide +kernel
theorem dX12_init_57 : decode cX12_init 57 = .ok (.bipush 16, 2) := by decide +kernel
theorem dX12_init_59 : decode cX12_init 59 = .ok (.newarray .int, 2) := by decide +kernel
theorem dX12_init_61 : decode cX12_init 61 = .ok (.putfield 29, 3) := by decide +kernel
theorem dX12_init_64 : decode cX12_init 64 = .ok (.aload_n 0, 1) := by decide +kernel
theorem dX12_init_65 : decode cX12_init 65 = .ok (.bipush 6, 2) := by decide +kernel
theorem dX12_init_67 : decode cX12_init 67 = .ok (.newarray .int, 2) := by decide +kernel
theorem dX12_init_69 : decode cX12_init 69 = .ok (.dup, 1) := by decide +kernel
theorem dX12_init_70 : decode cX12_init 70 = .ok (.iconst 0, 1) := by decide +kernel
theorem dX12_init_71 : decode cX12_init 71 = .ok (.iconst (-1), 1) := by decide +kernel
theorem dX12_init_72 : decode cX12_init 72 = .ok (.iastore, 1) := by decide +kernel
theorem dX12_init_73 : decode cX12_init 73 = .ok (.dup, 1) := by decide +kernel
theorem dX12_init_74 : decode cX12_init 74 = .ok (.iconst 1, 1) := by decide +kernel
theorem dX12_init_75 : decode cX12_init 75 = .ok (.iconst (-1), 1) := by decide +kernel
theorem dX12_init_76 : decode cX12_init 76 = .ok (.iastore, 1) := by decide +kernel
theorem dX12_init_77 : decode cX12_init 77 = .ok (.dup, 1) := by decide +kernel
theorem dX12_init_78 : decode cX12_init 78 = .ok (.iconst 2, 1) := by decide +kernel
theorem dX12_init_79 : decode cX12_init 79 = .ok (.iconst (-1), 1) := by decide +kernel
theorem dX12_init_80 : decode cX12_init 80 = .ok (.iastore, 1) := by decide +kernel
theorem dX12_init_81 : decode cX12_init 81 = .ok (.dup, 1) := by decide +kernel
theorem dX12_init_82 : decode cX12_init 82 = .ok (.iconst 3, 1) := by decide +kernel
theorem dX12_init_83 : decode cX12_init 83 = .ok (.iconst (-1), 1) := by decide +kernel
theorem dX12_init_84 : decode cX12_init 84 = .ok (.iastore, 1) := by decide +kernel
theorem dX12_init_85 : decode cX12_init 85 = .ok (.dup, 1) := by decide +kernel
theorem dX12_init_86 : decode cX12_init 86 = .ok (.iconst 4, 1) := by decide +kernel
theorem dX12_init_87 : decode cX12_init 87 = .ok (.iconst (-1), 1) := by decide +kernel
theorem dX12_init_88 : decode cX12_init 88 = .ok (.iastore, 1) := by decide +kernel
theorem dX12_init_89 : decode cX12_init 89 = .ok (.dup, 1) := by decide +kernel
theorem dX12_init_90 : decode cX12_init 90 = .ok (.iconst 5, 1) := by decide +kernel
theorem dX12_init_91 : decode cX12_init 91 = .ok (.iconst (-1), 1) := by decide +kernel
theorem dX12_init_92 : decode cX12_init 92 = .ok (.iastore, 1) := by decide +kernel
theorem dX12_init_93 : decode cX12_init 93 = .ok (.putfield 32, 3) := by decide +kernel
theorem dX12_init_96 : decode cX12_init 96 = .ok (.aload_n 0, 1) := by decide +kernel
theorem dX12_init_97 : decode cX12_init 97 = .ok (.bipush 6, 2) := by decide +kernel
theorem dX12_init_99 : decode cX12_init 99 = .ok (.newarray .int, 2) := by decide +kernel
theorem dX12_init_101 : decode cX12_init 101 = .ok (.dup, 1) := by decide +kernel
theorem dX12_init_102 : decode cX12_init 102 = .ok (.iconst 0, 1) := by decide +kernel
theorem dX12_init_103 : decode cX12_init 103 = .ok (.iconst (-1), 1) := by decide +kernel
theorem dX12_init_104 : decode cX12_init 104 = .ok (.iastore, 1) := by decide +kernel
theorem dX12_init_105 : decode cX12_init 105 = .ok (.dup, 1) := by decide +kernel
theorem dX12_init_106 : decode cX12_init 106 = .ok (.iconst 1, 1) := by decide +kernel
theorem dX12_init_107 : decode cX12_init 107 = .ok (.iconst (-1), 1) := by decide +kernel
theorem dX12_init_108 : decode cX12_init 108 = .ok (.iastore, 1) := by decide +kernel
theorem dX12_init_109 : decode cX12_init 109 = .ok (.dup, 1) := by decide +kernel
theorem dX12_init_110 : decode cX12_init 110 = .ok (.iconst 2, 1) := by decide +kernel
theorem dX12_init_111 : decode cX12_init 111 = .ok (.iconst (-1), 1) := by decide +kernel
theorem dX12_init_112 : decode cX12_init 112 = .ok (.iastore, 1) := by decide +kernel
theorem dX12_init_113 : decode cX12_init 113 = .ok (.dup, 1) := by decide +kernel
theorem dX12_init_114 : decode cX12_init 114 = .ok (.iconst 3, 1) := by decide +kernel
theorem dX12_init_115 : decode cX12_init 115 = .ok (.iconst (-1), 1) := by decide +kernel
theorem dX12_init_116 : decode cX12_init 116 = .ok (.iastore, 1) := by decide +kernel
theorem dX12_init_117 : decode cX12_init 117 = .ok (.dup, 1) := by decide +kernel
theorem dX12_init_118 : decode cX12_init 118 = .ok (.iconst 4, 1) := by decide +kernel
theorem dX12_init_119 : decode cX12_init 119 = .ok (.iconst (-1), 1) := by decide +kernel
theorem dX12_init_120 : decode cX12_init 120 = .ok (.iastore, 1) := by decide +kernel
theorem dX12_init_121 : decode cX12_init 121 = .ok (.dup, 1) := by decide +kernel
theorem dX12_init_122 : decode cX12_init 122 = .ok (.iconst 5, 1) := by decide +kernel
theorem dX12_init_123 : decode cX12_init 123 = .ok (.iconst (-1), 1) := by decide +kernel
theorem dX12_init_124 : decode cX12_init 124 = .ok (.iastore, 1) := by decide +kernel
theorem dX12_init_125 : decode cX12_init 125 = .ok (.putfield 35, 3) := by decide +kernel
theorem dX12_init_128 : decode cX12_init 128 = .ok (.aload_n 0, 1) := by decide +kernel
theorem dX12_init_129 : decode cX12_init 129 = .ok (.bipush 6, 2) := by decide +kernel
theorem dX12_init_131 : decode cX12_init 131 = .ok (.newarray .int, 2) := by decide +kernel
theorem dX12_init_133 : decode cX12_init 133 = .ok (.dup, 1) := by decide +kernel
theorem dX12_init_134 : decode cX12_init 134 = .ok (.iconst 0, 1) := by decide +kernel
theorem dX12_init_135 : decode cX12_init 135 = .ok (.iconst (-1), 1) := by decide +kernel
theorem dX12_init_136 : decode cX12_init 136 = .ok (.iastore, 1) := by decide +kernel
theorem dX12_init_137 : decode cX12_init 137 = .ok (.dup, 1) := by decide +kernel
theorem dX12_init_138 : decode cX12_init 138 = .ok (.iconst 1, 1) := by decide +kernel
theorem dX12_init_139 : decode cX12_init 139 = .ok (.iconst (-1), 1) := by decide +kernel
theorem dX12_init_140 : decode cX12_init 140 = .ok (.iastore, 1) := by decide +kernel
theorem dX12_init_141 : decode cX12_init 141 = .ok (.dup, 1) := by decide +kernel
theorem dX12_init_142 : decode cX12_init 142 = .ok (.iconst 2, 1) := by decide +kernel
theorem dX12_init_143 : decode cX12_init 143 = .ok (.iconst (-1), 1) := by decide +kernel
theorem dX12_init_144 : decode cX12_init 144 = .ok (.iastore, 1) := by decide +kernel
theorem dX12_init_145 : decode cX12_init 145 = .ok (.dup, 1) := by decide +kernel
theorem dX12_init_146 : decode cX12_init 146 = .ok (.iconst 3, 1) := by decide +kernel
theorem dX12_init_147 : decode cX12_init 147 = .ok (.iconst (-1), 1) := by decide +kernel
theorem dX12_init_148 : decode cX12_init 148 = .ok (.iastore, 1) := by decide +kernel
theorem dX12_init_149 : decode cX12_init 149 = .ok (.dup, 1) := by decide +kernel
theorem dX12_init_150 : decode cX12_init 150 = .ok (.iconst 4, 1) := by decide +kernel
theorem dX12_init_151 : decode cX12_init 151 = .ok (.iconst (-1), 1) := by decide +kernel
theorem dX12_init_152 : decode cX12_init 152 = .ok (.iastore, 1) := by decide +kernel
theorem dX12_init_153 : decode cX12_init 153 = .ok (.dup, 1) := by decide +kernel
theorem dX12_init_154 : decode cX12_init 154 = .ok (.iconst 5, 1) := by decide +kernel
theorem dX12_init_155 : decode cX12_init 155 = .ok (.iconst (-1), 1) := by decide +kernel
theorem dX12_init_156 : decode cX12_init 156 = .ok (.iastore, 1) := by decide +kernel
theorem dX12_init_157 : decode cX12_init 157 = .ok (.putfield 38, 3) := by decide +kernel
theorem dX12_init_160 : decode cX12_init 160 = .ok (.aload_n 0, 1) := by decide +kernel
theorem dX12_init_161 : decode cX12_init 161 = .ok (.bipush 6, 2) := by decide +kernel
theorem dX12_init_163 : decode cX12_init 163 = .ok (.newarray .int, 2) := by decide +kernel
theorem dX12_init_165 : decode cX12_init 165 = .ok (.putfield 41, 3) := by decide +kernel
theorem dX12_init_168 : decode cX12_init 168 = .ok (.aload_n 0, 1) := by decide +kernel
theorem dX12_init_169 : decode cX12_init 169 = .ok (.bipush 6, 2) := by decide +kernel
theorem dX12_init_171 : decode cX12_init 171 = .ok (.newarray .int, 2) := by decide +kernel
theorem dX12_init_173 : decode cX12_init 173 = .ok (.putfield 44, 3) := by decide +kernel
theorem dX12_init_176 : decode cX12_init 176 = .ok (.aload_n 0, 1) := by decide +kernel
theorem dX12_init_177 : decode cX12_init 177 = .ok (.bipush 6, 2) := by decide +kernel
theorem dX12_init_179 : decode cX12_init 179 = .ok (.newarray .int, 2) := by decide +kernel
theorem dX12_init_181 : decode cX12_init 181 = .ok (.putfield 47, 3) := by decide +kernel
theorem dX12_init_184 : decode cX12_init 184 = .ok (.aload_n 0, 1) := by decide +kernel
theorem dX12_init_185 : decode cX12_init 185 = .ok (.bipush 6, 2) := by decide +kernel
theorem dX12_init_187 : decode cX12_init 187 = .ok (.newarray .boolean, 2) := by decide +kernel
theorem dX12_init_189 : decode cX12_init 189 = .ok (.putfield 50, 3) := by decide +kernel
theorem dX12_init_192 : decode cX12_init 192 = .ok (.aload_n 0, 1) := by decide +kernel
theorem dX12_init_193 : decode cX12_init 193 = .ok (.bipush 30, 2) := by decide +kernel
theorem dX12_init_195 : decode cX12_init 195 = .ok (.newarray .int, 2) := by decide +kernel
theorem dX12_init_197 : decode cX12_init 197 = .ok (.putfield 53, 3) := by decide +kernel
theorem dX12_init_200 : decode cX12_init 200 = .ok (.aload_n 0, 1) := by decide +kernel
theorem dX12_init_201 : decode cX12_init 201 = .ok (.bipush 6, 2) := by decide +kernel
theorem dX12_init_203 : decode cX12_init 203 = .ok (.newarray .int, 2) := by decide +kernel
theorem dX12_init_205 : decode cX12_init 205 = .ok (.putfield 56, 3) := by decide +kernel
theorem dX12_init_208 : decode cX12_init 208 = .ok (.aload_n 0, 1) := by decide +kernel
theorem dX12_init_209 : decode cX12_init 209 = .ok (.bipush 6, 2) := by decide +kernel
theorem dX12_init_211 : decode cX12_init 211 = .ok (.newarray .int, 2) := by decide +kernel
theorem dX12_init_213 : decode cX12_init 213 = .ok (.putfield 59, 3) := by decide +kernel
theorem dX12_init_216 : decode cX12_init 216 = .ok (.aload_n 0, 1) := by decide +kernel
theorem dX12_init_217 : decode cX12_init 217 = .ok (.iconst (-1), 1) := by decide +kernel
theorem dX12_init_218 : decode cX12_init 218 = .ok (.putfield 62, 3) := by decide +kernel
theorem dX12_init_221 : decode cX12_init 221 = .ok (.aload_n 0, 1) := by decide +kernel
theorem dX12_init_222 : decode cX12_init 222 = .ok (.bipush 6, 2) := by decide +kernel
theorem dX12_init_224 : decode cX12_init 224 = .ok (.newarray .int, 2) := by decide +kernel
theorem dX12_init_226 : decode cX12_init 226 = .ok (.putfield 66, 3) := by decide +kernel
theorem dX12_init_229 : decode cX12_init 229 = .ok (.aload_n 0, 1) := by decide +kernel
theorem dX12_init_230 : decode cX12_init 230 = .ok (.bipush 6, 2) := by decide +kernel
theorem dX12_init_232 : decode cX12_init 232 = .ok (.newarray .int, 2) := by decide +kernel
theorem dX12_init_234 : decode cX12_init 234 = .ok (.putfield 69, 3) := by decide +kernel
theorem dX12_init_237 : decode cX12_init 237 = .ok (.return_, 1) := by decide +kernel
theorem dX12_thrown_0 : decode cX12_thrown 0 = .ok (.aload_n 0, 1) := by decide +kernel
theorem dX12_thrown_1 : decode cX12_thrown 1 = .ok (.getfield 72, 3) := by decide +kernel
theorem dX12_thrown_4 : decode cX12_thrown 4 = .ok (.ireturn, 1) := by decide +kernel
theorem dX12_goesWell_0 : decode cX12_goesWell 0 = .ok (.aload_n 0, 1) := by decide +kernel
theorem dX12_goesWell_1 : decode cX12_goesWell 1 = .ok (.iload_n 1, 1) := by decide +kernel
theorem dX12_goesWell_2 : decode cX12_goesWell 2 = .ok (.putfield 72, 3) := by decide +kernel
theorem dX12_goesWell_5 : decode cX12_goesWell 5 = .ok (.iload_n 1, 1) := by decide +kernel
theorem dX12_goesWell_6 : decode cX12_goesWell 6 = .ok (.ifCond .ne 7, 3) := by decide +kernel
theorem dX12_goesWell_9 : decode cX12_goesWell 9 = .ok (.iconst 1, 1) := by decide +kernel
theorem dX12_goesWell_10 : decode cX12_goesWell 10 = .ok (.goto 4, 3) := by decide +kernel
theorem dX12_goesWell_13 : decode cX12_goesWell 13 = .ok (.iconst 0, 1) := by decide +kernel
theorem dX12_goesWell_14 : decode cX12_goesWell 14 = .ok (.ireturn, 1) := by decide +kernel
theorem dX12_in_0 : decode cX12_in 0 = .ok (.iload_n 0, 1) := by decide +kernel
theorem dX12_in_1 : decode cX12_in 1 = .ok (.iload_n 1, 1) := by decide +kernel
theorem dX12_in_2 : decode cX12_in 2 = .ok (.if_icmp .lt 12, 3) := by decide +kernel
theorem dX12_in_5 : decode cX12_in 5 = .ok (.iload_n 0, 1) := by decide +kernel
theorem dX12_in_6 : decode cX12_in 6 = .ok (.iload_n 2, 1) := by decide +kernel
theorem dX12_in_7 : decode cX12_in 7 = .ok (.if_icmp .gt 7, 3) := by decide +kernel
theorem dX12_in_10 : decode cX12_in 10 = .ok (.iconst 1, 1) := by decide +kernel
theorem dX12_in_11 : decode cX12_in 11 = .ok (.goto 4, 3) := by decide +kernel
theorem dX12_in_14 : decode cX12_in 14 = .ok (.iconst 0, 1) := by decide +kernel
theorem dX12_in_15 : decode cX12_in 15 = .ok (.ireturn, 1) := by decide +kernel
theorem dX12_isPackage_0 : decode cX12_isPackage 0 = .ok (.iload_n 0, 1) := by decide +kernel
theorem dX12_isPackage_1 : decode cX12_isPackage 1 = .ok (.iconst 0, 1) := by decide +kernel
theorem dX12_isPackage_2 : decode cX12_isPackage 2 = .ok (.iconst 5, 1) := by decide +kernel
theorem dX12_isPackage_3 : decode cX12_isPackage 3 = .ok (.invokestatic 75, 3) := by decide +kernel
theorem dX12_isPackage_6 : decode cX12_isPackage 6 = .ok (.ireturn, 1) := by decide +kernel
theorem dX12_isVersion_0 : decode cX12_isVersion 0 = .ok (.iload_n 1, 1) := by decide +kernel
theorem dX12_isVersion_1 : decode cX12_isVersion 1 = .ok (.iconst 0, 1) := by decide +kernel
theorem dX12_isVersion_2 : decode cX12_isVersion 2 = .ok (.aload_n 0, 1) := by decide +kernel
theorem dX12_isVersion_3 : decode cX12_isVersion 3 = .ok (.getfield 79, 3) := by decide +kernel
theorem dX12_isVersion_6 : decode cX12_isVersion 6 = .ok (.iconst 1, 1) := by decide +kernel
theorem dX12_isVersion_7 : decode cX12_isVersion 7 = .ok (.isub, 1) := by decide +kernel
theorem dX12_isVersion_8 : decode cX12_isVersion 8 = .ok (.invokestatic 75, 3) := by decide +kernel
theorem dX12_isVersion_11 : decode cX12_isVersion 11 = .ok (.ireturn, 1) := by decide +kernel
theorem dX12_isRange_0 : decode cX12_isRange 0 = .ok (.iload_n 1, 1) := by decide +kernel
theorem dX12_isRange_1 : decode cX12_isRange 1 = .ok (.iconst 0, 1) := by decide +kernel
theorem dX12_isRange_2 : decode cX12_isRange 2 = .ok (.aload_n 0, 1) := by decide +kernel
theorem dX12_isRange_3 : decode cX12_isRange 3 = .ok (.getfield 82, 3) := by decide +kernel
theorem dX12_isRange_6 : decode cX12_isRange 6 = .ok (.iconst 1, 1) := by decide +kernel
theorem dX12_isRange_7 : decode cX12_isRange 7 = .ok (.isub, 1) := by decide +kernel
theorem dX12_isRange_8 : decode cX12_isRange 8 = .ok (.invokestatic 75, 3) := by decide +kernel
theorem dX12_isRange_11 : decode cX12_isRange 11 = .ok (.ireturn, 1) := by decide +kernel
theorem dX12_packageOf_0 : decode cX12_packageOf 0 = .ok (.aload_n 0, 1) := by decide +kernel
theorem dX12_packageOf_1 : decode cX12_packageOf 1 = .ok (.getfield 7, 3) := by decide +kernel
theorem dX12_packageOf_4 : decode cX12_packageOf 4 = .ok (.bipush 9, 2) := by decide +kernel
theorem dX12_packageOf_6 : decode cX12_packageOf 6 = .ok (.iload_n 1, 1) := by decide +kernel
theorem dX12_packageOf_7 : decode cX12_packageOf 7 = .ok (.imul, 1) := by decide +kernel
theorem dX12_packageOf_8 : decode cX12_packageOf 8 = .ok (.iaload, 1) := by decide +kernel
theorem dX12_packageOf_9 : decode cX12_packageOf 9 = .ok (.ireturn, 1) := by decide +kernel
theorem dX12_compareTo_0 : decode cX12_compareTo 0 = .ok (.bipush 9, 2) := by decide +kernel
theorem dX12_compareTo_2 : decode cX12_compareTo 2 = .ok (.iload_n 1, 1) := by decide +kernel
theorem dX12_compareTo_3 : decode cX12_compareTo 3 = .ok (.imul, 1) := by decide +kernel
theorem dX12_compareTo_4 : decode cX12_compareTo 4 = .ok (.istore 6, 2) := by decide +kernel
theorem dX12_compareTo_6 : decode cX12_compareTo 6 = .ok (.aload_n 0, 1) := by decide +kernel
theorem dX12_compareTo_7 : decode cX12_compareTo 7 = .ok (.getfield 7, 3) := by decide +kernel
theorem dX12_compareTo_10 : decode cX12_compareTo 10 = .ok (.iload 6, 2) := by decide +kernel
theorem dX12_compareTo_12 : decode cX12_compareTo 12 = .ok (.iconst 1, 1) := by decide +kernel
theorem dX12_compareTo_13 : decode cX12_compareTo 13 = .ok (.iadd, 1) := by decide +kernel
theorem dX12_compareTo_14 : decode cX12_compareTo 14 = .ok (.iaload, 1) := by decide +kernel
theorem dX12_compareTo_15 : decode cX12_compareTo 15 = .ok (.iload_n 2, 1) := by decide +kernel
theorem dX12_compareTo_16 : decode cX12_compareTo 16 = .ok (.if_icmp .eq 17, 3) := by decide +kernel
theorem dX12_compareTo_19 : decode cX12_compareTo 19 = .ok (.aload_n 0, 1) := by decide +kernel
theorem dX12_compareTo_20 : decode cX12_compareTo 20 = .ok (.getfield 7, 3) := by decide +kernel
theorem dX12_compareTo_23 : decode cX12_compareTo 23 = .ok (.iload 6, 2) := by decide +kernel
theorem dX12_compareTo_25 : decode cX12_compareTo 25 = .ok (.iconst 1, 1) := by decide +kernel
theorem dX12_compareTo_26 : decode cX12_compareTo 26 = .ok (.iadd, 1) := by decide +kernel
theorem dX12_compareTo_27 : decode cX12_compareTo 27 = .ok (.iaload, 1) := by decide +kernel
theorem dX12_compareTo_28 : decode cX12_compareTo 28 = .ok (.iload_n 2, 1) := by decide +kernel
theorem dX12_compareTo_29 : decode cX12_compareTo 29 = .ok (.isub, 1) := by decide +kernel
theorem dX12_compareTo_30 : decode cX12_compareTo 30 = .ok (.goto 42, 3) := by decide +kernel
theorem dX12_compareTo_33 : decode cX12_compareTo 33 = .ok (.aload_n 0, 1) := by decide +kernel
theorem dX12_compareTo_34 : decode cX12_compareTo 34 = .ok (.getfield 7, 3) := by decide +kernel
theorem dX12_compareTo_37 : decode cX12_compareTo 37 = .ok (.iload 6, 2) := by decide +kernel
theorem dX12_compareTo_39 : decode cX12_compareTo 39 = .ok (.iconst 2, 1) := by decide +kernel
theorem dX12_compareTo_40 : decode cX12_compareTo 40 = .ok (.iadd, 1) := by decide +kernel
theorem dX12_compareTo_41 : decode cX12_compareTo 41 = .ok (.iaload, 1) := by decide +kernel
theorem dX12_compareTo_42 : decode cX12_compareTo 42 = .ok (.iload_n 3, 1) := by decide +kernel
theorem dX12_compareTo_43 : decode cX12_compareTo 43 = .ok (.if_icmp .eq 17, 3) := by decide +kernel
theorem dX12_compareTo_46 : decode cX12_compareTo 46 = .ok (.aload_n 0, 1) := by decide +kernel
theorem dX12_compareTo_47 : decode cX12_compareTo 47 = .ok (.getfield 7, 3) := by decide +kernel
theorem dX12_compareTo_50 : decode cX12_compareTo 50 = .ok (.iload 6, 2) := by decide +kernel
theorem dX12_compareTo_52 : decode cX12_compareTo 52 = .ok (.iconst 2, 1) := by decide +kernel
theorem dX12_compareTo_53 : decode cX12_compareTo 53 = .ok (.iadd, 1) := by decide +kernel
theorem dX12_compareTo_54 : decode cX12_compareTo 54 = .ok (.iaload, 1) := by decide +kernel
theorem dX12_compareTo_55 : decode cX12_compareTo 55 = .ok (.iload_n 3, 1) := by decide +kernel
theorem dX12_compareTo_56 : decode cX12_compareTo 56 = .ok (.isub, 1) := by decide +kernel
theorem dX12_compareTo_57 : decode cX12_compareTo 57 = .ok (.goto 15, 3) := by decide +kernel
theorem dX12_compareTo_60 : decode cX12_compareTo 60 = .ok (.aload_n 0, 1) := by decide +kernel
theorem dX12_compareTo_61 : decode cX12_compareTo 61 = .ok (.getfield 7, 3) := by decide +kernel
theorem dX12_compareTo_64 : decode cX12_compareTo 64 = .ok (.iload 6, 2) := by decide +kernel
theorem dX12_compareTo_66 : decode cX12_compareTo 66 = .ok (.iconst 3, 1) := by decide +kernel
theorem dX12_compareTo_67 : decode cX12_compareTo 67 = .ok (.iadd, 1) := by decide +kernel
theorem dX12_compareTo_68 : decode cX12_compareTo 68 = .ok (.iaload, 1) := by decide +kernel
theorem dX12_compareTo_69 : decode cX12_compareTo 69 = .ok (.iload 4, 2) := by decide +kernel
theorem dX12_compareTo_71 : decode cX12_compareTo 71 = .ok (.isub, 1) := by decide +kernel
theorem dX12_compareTo_72 : decode cX12_compareTo 72 = .ok (.istore 7, 2) := by decide +kernel
theorem dX12_compareTo_74 : decode cX12_compareTo 74 = .ok (.iload 7, 2) := by decide +kernel
theorem dX12_compareTo_76 : decode cX12_compareTo 76 = .ok (.ifCond .ne 17, 3) := by decide +kernel
theorem dX12_compareTo_79 : decode cX12_compareTo 79 = .ok (.aload_n 0, 1) := by decide +kernel
theorem dX12_compareTo_80 : decode cX12_compareTo 80 = .ok (.getfield 7, 3) := by decide +kernel
theorem dX12_compareTo_83 : decode cX12_compareTo 83 = .ok (.iload 6, 2) := by decide +kernel
theorem dX12_compareTo_85 : decode cX12_compareTo 85 = .ok (.iconst 4, 1) := by decide +kernel
theorem dX12_compareTo_86 : decode cX12_compareTo 86 = .ok (.iadd, 1) := by decide +kernel
theorem dX12_compareTo_87 : decode cX12_compareTo 87 = .ok (.iaload, 1) := by decide +kernel
theorem dX12_compareTo_88 : decode cX12_compareTo 88 = .ok (.iload 5, 2) := by decide +kernel
theorem dX12_compareTo_90 : decode cX12_compareTo 90 = .ok (.if_icmp .ne 6, 3) := by decide +kernel
theorem dX12_compareTo_93 : decode cX12_compareTo 93 = .ok (.iload 7, 2) := by decide +kernel
theorem dX12_compareTo_95 : decode cX12_compareTo 95 = .ok (.ireturn, 1) := by decide +kernel
theorem dX12_compareTo_96 : decode cX12_compareTo 96 = .ok (.aload_n 0, 1) := by decide +kernel
theorem dX12_compareTo_97 : decode cX12_compareTo 97 = .ok (.getfield 7, 3) := by decide +kernel
theorem dX12_compareTo_100 : decode cX12_compareTo 100 = .ok (.iload 6, 2) := by decide +kernel
theorem dX12_compareTo_102 : decode cX12_compareTo 102 = .ok (.iconst 4, 1) := by decide +kernel
theorem dX12_compareTo_103 : decode cX12_compareTo 103 = .ok (.iadd, 1) := by decide +kernel
theorem dX12_compareTo_104 : decode cX12_compareTo 104 = .ok (.iaload, 1) := by decide +kernel
theorem dX12_compareTo_105 : decode cX12_compareTo 105 = .ok (.ifCond .ne 7, 3) := by decide +kernel
theorem dX12_compareTo_108 : decode cX12_compareTo 108 = .ok (.iconst 1, 1) := by decide +kernel
theorem dX12_compareTo_109 : decode cX12_compareTo 109 = .ok (.goto 24, 3) := by decide +kernel
theorem dX12_compareTo_112 : decode cX12_compareTo 112 = .ok (.iload 5, 2) := by decide +kernel
theorem dX12_compareTo_114 : decode cX12_compareTo 114 = .ok (.ifCond .ne 7, 3) := by decide +kernel
theorem dX12_compareTo_117 : decode cX12_compareTo 117 = .ok (.iconst (-1), 1) := by decide +kernel
theorem dX12_compareTo_118 : decode cX12_compareTo 118 = .ok (.goto 15, 3) := by decide +kernel
theorem dX12_compareTo_121 : decode cX12_compareTo 121 = .ok (.aload_n 0, 1) := by decide +kernel
theorem dX12_compareTo_122 : decode cX12_compareTo 122 = .ok (.getfield 7, 3) := by decide +kernel
theorem dX12_compareTo_125 : decode cX12_compareTo 125 = .ok (.iload 6, 2) := by decide +kernel
theorem dX12_compareTo_127 : decode cX12_compareTo 127 = .ok (.iconst 4, 1) := by decide +kernel
theorem dX12_compareTo_128 : decode cX12_compareTo 128 = .ok (.iadd, 1) := by decide +kernel
theorem dX12_compareTo_129 : decode cX12_compareTo 129 = .ok (.iaload, 1) := by decide +kernel
theorem dX12_compareTo_130 : decode cX12_compareTo 130 = .ok (.iload 5, 2) := by decide +kernel
theorem dX12_compareTo_132 : decode cX12_compareTo 132 = .ok (.isub, 1) := by decide +kernel
theorem dX12_compareTo_133 : decode cX12_compareTo 133 = .ok (.ireturn, 1) := by decide +kernel
theorem dX12_compared_0 : decode cX12_compared 0 = .ok (.bipush 9, 2) := by decide +kernel
theorem dX12_compared_2 : decode cX12_compared 2 = .ok (.iload_n 2, 1) := by decide +kernel
theorem dX12_compared_3 : decode cX12_compared 3 = .ok (.imul, 1) := by decide +kernel
theorem dX12_compared_4 : decode cX12_compared 4 = .ok (.istore_n 3, 1) := by decide +kernel
theorem dX12_compared_5 : decode cX12_compared 5 = .ok (.aload_n 0, 1) := by decide +kernel
theorem dX12_compared_6 : decode cX12_compared 6 = .ok (.iload_n 1, 1) := by decide +kernel
theorem dX12_compared_7 : decode cX12_compared 7 = .ok (.aload_n 0, 1) := by decide +kernel
theorem dX12_compared_8 : decode cX12_compared 8 = .ok (.getfield 7, 3) := by decide +kernel
theorem dX12_compared_11 : decode cX12_compared 11 = .ok (.iload_n 3, 1) := by decide +kernel
theorem dX12_compared_12 : decode cX12_compared 12 = .ok (.iconst 1, 1) := by decide +kernel
theorem dX12_compared_13 : decode cX12_compared 13 = .ok (.iadd, 1) := by decide +kernel
theorem dX12_compared_14 : decode cX12_compared 14 = .ok (.iaload, 1) := by decide +kernel
theorem dX12_compared_15 : decode cX12_compared 15 = .ok (.aload_n 0, 1) := by decide +kernel
theorem dX12_compared_16 : decode cX12_compared 16 = .ok (.getfield 7, 3) := by decide +kernel
theorem dX12_compared_19 : decode cX12_compared 19 = .ok (.iload_n 3, 1) := by decide +kernel
theorem dX12_compared_20 : decode cX12_compared 20 = .ok (.iconst 2, 1) := by decide +kernel
theorem dX12_compared_21 : decode cX12_compared 21 = .ok (.iadd, 1) := by decide +kernel
theorem dX12_compared_22 : decode cX12_compared 22 = .ok (.iaload, 1) := by decide +kernel
theorem dX12_compared_23 : decode cX12_compared 23 = .ok (.aload_n 0, 1) := by decide +kernel
theorem dX12_compared_24 : decode cX12_compared 24 = .ok (.getfield 7, 3) := by decide +kernel
theorem dX12_compared_27 : decode cX12_compared 27 = .ok (.iload_n 3, 1) := by decide +kernel
theorem dX12_compared_28 : decode cX12_compared 28 = .ok (.iconst 3, 1) := by decide +kernel
theorem dX12_compared_29 : decode cX12_compared 29 = .ok (.iadd, 1) := by decide +kernel
theorem dX12_compared_30 : decode cX12_compared 30 = .ok (.iaload, 1) := by decide +kernel
theorem dX12_compared_31 : decode cX12_compared 31 = .ok (.aload_n 0, 1) := by decide +kernel
theorem dX12_compared_32 : decode cX12_compared 32 = .ok (.getfield 7, 3) := by decide +kernel
theorem dX12_compared_35 : decode cX12_compared 35 = .ok (.iload_n 3, 1) := by decide +kernel
theorem dX12_compared_36 : decode cX12_compared 36 = .ok (.iconst 4, 1) := by decide +kernel
theorem dX12_compared_37 : decode cX12_compared 37 = .ok (.iadd, 1) := by decide +kernel
theorem dX12_compared_38 : decode cX12_compared 38 = .ok (.iaload, 1) := by decide +kernel
theorem dX12_compared_39 : decode cX12_compared 39 = .ok (.invokevirtual 85, 3) := by decide +kernel
theorem dX12_compared_42 : decode cX12_compared 42 = .ok (.ireturn, 1) := by decide +kernel
theorem dX12_isIn_0 : decode cX12_isIn 0 = .ok (.iconst 5, 1) := by decide +kernel
theorem dX12_isIn_1 : decode cX12_isIn 1 = .ok (.iload_n 1, 1) := by decide +kernel
theorem dX12_isIn_2 : decode cX12_isIn 2 = .ok (.imul, 1) := by decide +kernel
theorem dX12_isIn_3 : decode cX12_isIn 3 = .ok (.istore_n 3, 1) := by decide +kernel
theorem dX12_isIn_4 : decode cX12_isIn 4 = .ok (.aload_n 0, 1) := by decide +kernel
theorem dX12_isIn_5 : decode cX12_isIn 5 = .ok (.getfield 19, 3) := by decide +kernel
theorem dX12_isIn_8 : decode cX12_isIn 8 = .ok (.iload_n 3, 1) := by decide +kernel
theorem dX12_isIn_9 : decode cX12_isIn 9 = .ok (.iconst 1, 1) := by decide +kernel
theorem dX12_isIn_10 : decode cX12_isIn 10 = .ok (.iadd, 1) := by decide +kernel
theorem dX12_isIn_11 : decode cX12_isIn 11 = .ok (.iaload, 1) := by decide +kernel
theorem dX12_isIn_12 : decode cX12_isIn 12 = .ok (.istore 4, 2) := by decide +kernel
theorem dX12_isIn_14 : decode cX12_isIn 14 = .ok (.aload_n 0, 1) := by decide +kernel
theorem dX12_isIn_15 : decode cX12_isIn 15 = .ok (.getfield 19, 3) := by decide +kernel
theorem dX12_isIn_18 : decode cX12_isIn 18 = .ok (.iload_n 3, 1) := by decide +kernel
theorem dX12_isIn_19 : decode cX12_isIn 19 = .ok (.iconst 2, 1) := by decide +kernel
theorem dX12_isIn_20 : decode cX12_isIn 20 = .ok (.iadd, 1) := by decide +kernel
theorem dX12_isIn_21 : decode cX12_isIn 21 = .ok (.iaload, 1) := by decide +kernel
theorem dX12_isIn_22 : decode cX12_isIn 22 = .ok (.istore 5, 2) := by decide +kernel
theorem dX12_isIn_24 : decode cX12_isIn 24 = .ok (.aload_n 0, 1) := by decide +kernel
theorem dX12_isIn_25 : decode cX12_isIn 25 = .ok (.getfield 19, 3) := by decide +kernel
theorem dX12_isIn_28 : decode cX12_isIn 28 = .ok (.iload_n 3, 1) := by decide +kernel
theorem dX12_isIn_29 : decode cX12_isIn 29 = .ok (.iconst 3, 1) := by decide +kernel
theorem dX12_isIn_30 : decode cX12_isIn 30 = .ok (.iadd, 1) := by decide +kernel
theorem dX12_isIn_31 : decode cX12_isIn 31 = .ok (.iaload, 1) := by decide +kernel
theorem dX12_isIn_32 : decode cX12_isIn 32 = .ok (.istore 6, 2) := by decide +kernel
theorem dX12_isIn_34 : decode cX12_isIn 34 = .ok (.aload_n 0, 1) := by decide +kernel
theorem dX12_isIn_35 : decode cX12_isIn 35 = .ok (.getfield 19, 3) := by decide +kernel
theorem dX12_isIn_38 : decode cX12_isIn 38 = .ok (.iload_n 3, 1) := by decide +kernel
theorem dX12_isIn_39 : decode cX12_isIn 39 = .ok (.iconst 4, 1) := by decide +kernel
theorem dX12_isIn_40 : decode cX12_isIn 40 = .ok (.iadd, 1) := by decide +kernel
theorem dX12_isIn_41 : decode cX12_isIn 41 = .ok (.iaload, 1) := by decide +kernel
theorem dX12_isIn_42 : decode cX12_isIn 42 = .ok (.istore 7, 2) := by decide +kernel
theorem dX12_isIn_44 : decode cX12_isIn 44 = .ok (.aload_n 0, 1) := by decide +kernel
theorem dX12_isIn_45 : decode cX12_isIn 45 = .ok (.getfield 19, 3) := by decide +kernel
theorem dX12_isIn_48 : decode cX12_isIn 48 = .ok (.iload_n 3, 1) := by decide +kernel
theorem dX12_isIn_49 : decode cX12_isIn 49 = .ok (.iaload, 1) := by decide +kernel
theorem dX12_isIn_50 : decode cX12_isIn 50 = .ok (.istore 8, 2) := by decide +kernel
theorem dX12_isIn_52 : decode cX12_isIn 52 = .ok (.iload 8, 2) := by decide +kernel
theorem dX12_isIn_54 : decode cX12_isIn 54 = .ok (.bipush 8, 2) := by decide +kernel
theorem dX12_isIn_56 : decode cX12_isIn 56 = .ok (.if_icmp .eq 10, 3) := by decide +kernel
theorem dX12_isIn_59 : decode cX12_isIn 59 = .ok (.iload 8, 2) := by decide +kernel
theorem dX12_isIn_61 : decode cX12_isIn 61 = .ok (.bipush 9, 2) := by decide +kernel
theorem dX12_isIn_63 : decode cX12_isIn 63 = .ok (.if_icmp .ne 72, 3) := by decide +kernel
theorem dX12_isIn_66 : decode cX12_isIn 66 = .ok (.aload_n 0, 1) := by decide +kernel
theorem dX12_isIn_67 : decode cX12_isIn 67 = .ok (.getfield 22, 3) := by decide +kernel
theorem dX12_isIn_70 : decode cX12_isIn 70 = .ok (.bipush 24, 2) := by decide +kernel
theorem dX12_isIn_72 : decode cX12_isIn 72 = .ok (.iload 4, 2) := by decide +kernel
theorem dX12_isIn_74 : decode cX12_isIn 74 = .ok (.imul, 1) := by decide +kernel
theorem dX12_isIn_75 : decode cX12_isIn 75 = .ok (.iload_n 2, 1) := by decide +kernel
theorem dX12_isIn_76 : decode cX12_isIn 76 = .ok (.iadd, 1) := by decide +kernel
theorem dX12_isIn_77 : decode cX12_isIn 77 = .ok (.baload, 1) := by decide +kernel
theorem dX12_isIn_78 : decode cX12_isIn 78 = .ok (.istore 9, 2) := by decide +kernel
theorem dX12_isIn_80 : decode cX12_isIn 80 = .ok (.aload_n 0, 1) := by decide +kernel
theorem dX12_isIn_81 : decode cX12_isIn 81 = .ok (.getfield 22, 3) := by decide +kernel
theorem dX12_isIn_84 : decode cX12_isIn 84 = .ok (.bipush 24, 2) := by decide +kernel
theorem dX12_isIn_86 : decode cX12_isIn 86 = .ok (.iload 5, 2) := by decide +kernel
theorem dX12_isIn_88 : decode cX12_isIn 88 = .ok (.imul, 1) := by decide +kernel
theorem dX12_isIn_89 : decode cX12_isIn 89 = .ok (.iload_n 2, 1) := by decide +kernel
theorem dX12_isIn_90 : decode cX12_isIn 90 = .ok (.iadd, 1) := by decide +kernel
theorem dX12_isIn_91 : decode cX12_isIn 91 = .ok (.baload, 1) := by decide +kernel
theorem dX12_isIn_92 : decode cX12_isIn 92 = .ok (.istore 10, 2) := by decide +kernel
theorem dX12_isIn_94 : decode cX12_isIn 94 = .ok (.iload 8, 2) := by decide +kernel
theorem dX12_isIn_96 : decode cX12_isIn 96 = .ok (.bipush 8, 2) := by decide +kernel
theorem dX12_isIn_98 : decode cX12_isIn 98 = .ok (.if_icmp .ne 21, 3) := by decide +kernel
theorem dX12_isIn_101 : decode cX12_isIn 101 = .ok (.iload 9, 2) := by decide +kernel
theorem dX12_isIn_103 : decode cX12_isIn 103 = .ok (.ifCond .eq 12, 3) := by decide +kernel
theorem dX12_isIn_106 : decode cX12_isIn 106 = .ok (.iload 10, 2) := by decide +kernel
theorem dX12_isIn_108 : decode cX12_isIn 108 = .ok (.ifCond .eq 7, 3) := by decide +kernel
theorem dX12_isIn_111 : decode cX12_isIn 111 = .ok (.iconst 1, 1) := by decide +kernel
theorem dX12_isIn_112 : decode cX12_isIn 112 = .ok (.goto 22, 3) := by decide +kernel
theorem dX12_isIn_115 : decode cX12_isIn 115 = .ok (.iconst 0, 1) := by decide +kernel
theorem dX12_isIn_116 : decode cX12_isIn 116 = .ok (.goto 18, 3) := by decide +kernel
theorem dX12_isIn_119 : decode cX12_isIn 119 = .ok (.iload 9, 2) := by decide +kernel
theorem dX12_isIn_121 : decode cX12_isIn 121 = .ok (.ifCond .ne 8, 3) := by decide +kernel
theorem dX12_isIn_124 : decode cX12_isIn 124 = .ok (.iload 10, 2) := by decide +kernel
theorem dX12_isIn_126 : decode cX12_isIn 126 = .ok (.ifCond .eq 7, 3) := by decide +kernel
theorem dX12_isIn_129 : decode cX12_isIn 129 = .ok (.iconst 1, 1) := by decide +kernel
theorem dX12_isIn_130 : decode cX12_isIn 130 = .ok (.goto 4, 3) := by decide +kernel
theorem dX12_isIn_133 : decode cX12_isIn 133 = .ok (.iconst 0, 1) := by decide +kernel
theorem dX12_isIn_134 : decode cX12_isIn 134 = .ok (.ireturn, 1) := by decide +kernel
theorem dX12_isIn_135 : decode cX12_isIn 135 = .ok (.aload_n 0, 1) := by decide +kernel
theorem dX12_isIn_136 : decode cX12_isIn 136 = .ok (.iload_n 2, 1) := by decide +kernel
theorem dX12_isIn_137 : decode cX12_isIn 137 = .ok (.iload 4, 2) := by decide +kernel
theorem dX12_isIn_139 : decode cX12_isIn 139 = .ok (.iload 5, 2) := by decide +kernel
theorem dX12_isIn_141 : decode cX12_isIn 141 = .ok (.iload 6, 2) := by decide +kernel
theorem dX12_isIn_143 : decode cX12_isIn 143 = .ok (.iload 7, 2) := by decide +kernel
theorem dX12_isIn_145 : decode cX12_isIn 145 = .ok (.invokevirtual 85, 3) := by decide +kernel
theorem dX12_isIn_148 : decode cX12_isIn 148 = .ok (.istore 9, 2) := by decide +kernel
theorem dX12_isIn_150 : decode cX12_isIn 150 = .ok (.aload_n 0, 1) := by decide +kernel
theorem dX12_isIn_151 : decode cX12_isIn 151 = .ok (.getfield 7, 3) := by decide +kernel
theorem dX12_isIn_154 : decode cX12_isIn 154 = .ok (.bipush 9, 2) := by decide +kernel
theorem dX12_isIn_156 : decode cX12_isIn 156 = .ok (.iload_n 2, 1) := by decide +kernel
theorem dX12_isIn_157 : decode cX12_isIn 157 = .ok (.imul, 1) := by decide +kernel
theorem dX12_isIn_158 : decode cX12_isIn 158 = .ok (.iconst 4, 1) := by decide +kernel
theorem dX12_isIn_159 : decode cX12_isIn 159 = .ok (.iadd, 1) := by decide +kernel
theorem dX12_isIn_160 : decode cX12_isIn 160 = .ok (.iaload, 1) := by decide +kernel
theorem dX12_isIn_161 : decode cX12_isIn 161 = .ok (.ifCond .le 76, 3) := by decide +kernel
theorem dX12_isIn_164 : decode cX12_isIn 164 = .ok (.aload_n 0, 1) := by decide +kernel
theorem dX12_isIn_165 : decode cX12_isIn 165 = .ok (.getfield 7, 3) := by decide +kernel
theorem dX12_isIn_168 : decode cX12_isIn 168 = .ok (.bipush 9, 2) := by decide +kernel
theorem dX12_isIn_170 : decode cX12_isIn 170 = .ok (.iload_n 2, 1) := by decide +kernel
theorem dX12_isIn_171 : decode cX12_isIn 171 = .ok (.imul, 1) := by decide +kernel
theorem dX12_isIn_172 : decode cX12_isIn 172 = .ok (.iconst 1, 1) := by decide +kernel
theorem dX12_isIn_173 : decode cX12_isIn 173 = .ok (.iadd, 1) := by decide +kernel
theorem dX12_isIn_174 : decode cX12_isIn 174 = .ok (.iaload, 1) := by decide +kernel
theorem dX12_isIn_175 : decode cX12_isIn 175 = .ok (.iload 4, 2) := by decide +kernel
theorem dX12_isIn_177 : decode cX12_isIn 177 = .ok (.if_icmp .ne 39, 3) := by decide +kernel
theorem dX12_isIn_180 : decode cX12_isIn 180 = .ok (.aload_n 0, 1) := by decide +kernel
theorem dX12_isIn_181 : decode cX12_isIn 181 = .ok (.getfield 7, 3) := by decide +kernel
theorem dX12_isIn_184 : decode cX12_isIn 184 = .ok (.bipush 9, 2) := by decide +kernel
theorem dX12_isIn_186 : decode cX12_isIn 186 = .ok (.iload_n 2, 1) := by decide +kernel
theorem dX12_isIn_187 : decode cX12_isIn 187 = .ok (.imul, 1) := by decide +kernel
theorem dX12_isIn_188 : decode cX12_isIn 188 = .ok (.iconst 2, 1) := by decide +kernel
theorem dX12_isIn_189 : decode cX12_isIn 189 = .ok (.iadd, 1) := by decide +kernel
theorem dX12_isIn_190 : decode cX12_isIn 190 = .ok (.iaload, 1) := by decide +kernel
theorem dX12_isIn_191 : decode cX12_isIn 191 = .ok (.iload 5, 2) := by decide +kernel
theorem dX12_isIn_193 : decode cX12_isIn 193 = .ok (.if_icmp .ne 23, 3) := by decide +kernel
theorem dX12_isIn_196 : decode cX12_isIn 196 = .ok (.aload_n 0, 1) := by decide +kernel
theorem dX12_isIn_197 : decode cX12_isIn 197 = .ok (.getfield 7, 3) := by decide +kernel
theorem dX12_isIn_200 : decode cX12_isIn 200 = .ok (.bipush 9, 2) := by decide +kernel
theorem dX12_isIn_202 : decode cX12_isIn 202 = .ok (.iload_n 2, 1) := by decide +kernel
theorem dX12_isIn_203 : decode cX12_isIn 203 = .ok (.imul, 1) := by decide +kernel
theorem dX12_isIn_204 : decode cX12_isIn 204 = .ok (.iconst 3, 1) := by decide +kernel
theorem dX12_isIn_205 : decode cX12_isIn 205 = .ok (.iadd, 1) := by decide +kernel
theorem dX12_isIn_206 : decode cX12_isIn 206 = .ok (.iaload, 1) := by decide +kernel
theorem dX12_isIn_207 : decode cX12_isIn 207 = .ok (.iload 6, 2) := by decide +kernel
theorem dX12_isIn_209 : decode cX12_isIn 209 = .ok (.if_icmp .ne 7, 3) := by decide +kernel
theorem dX12_isIn_212 : decode cX12_isIn 212 = .ok (.iconst 1, 1) := by decide +kernel
theorem dX12_isIn_213 : decode cX12_isIn 213 = .ok (.goto 4, 3) := by decide +kernel
theorem dX12_isIn_216 : decode cX12_isIn 216 = .ok (.iconst 0, 1) := by decide +kernel
theorem dX12_isIn_217 : decode cX12_isIn 217 = .ok (.istore 10, 2) := by decide +kernel
theorem dX12_isIn_219 : decode cX12_isIn 219 = .ok (.iload 8, 2) := by decide +kernel
theorem dX12_isIn_221 : decode cX12_isIn 221 = .ok (.iconst 3, 1) := by decide +kernel
theorem dX12_isIn_222 : decode cX12_isIn 222 = .ok (.if_icmp .eq 13, 3) := by decide +kernel
theorem dX12_isIn_225 : decode cX12_isIn 225 = .ok (.iload 7, 2) := by decide +kernel
theorem dX12_isIn_227 : decode cX12_isIn 227 = .ok (.ifCond .eq 8, 3) := by decide +kernel
theorem dX12_isIn_230 : decode cX12_isIn 230 = .ok (.iload 10, 2) := by decide +kernel
theorem dX12_isIn_232 : decode cX12_isIn 232 = .ok (.ifCond .ne 5, 3) := by decide +kernel
theorem dX12_isIn_235 : decode cX12_isIn 235 = .ok (.iconst 0, 1) := by decide +kernel
theorem dX12_isIn_236 : decode cX12_isIn 236 = .ok (.ireturn, 1) := by decide +kernel
theorem dX12_isIn_237 : decode cX12_isIn 237 = .ok (.iload 8, 2) := by decide +kernel
theorem dX12_isIn_239 : decode cX12_isIn 239 = .ok (.tableswitch 231 0 7 #[45, 56, 67, 231, 78, 144, 171, 193], 45) := by decide +kernel
theorem dX12_isIn_284 : decode cX12_isIn 284 = .ok (.iload 9, 2) := by decide +kernel
theorem dX12_isIn_286 : decode cX12_isIn 286 = .ok (.ifCond .ne 7, 3) := by decide +kernel
theorem dX12_isIn_289 : decode cX12_isIn 289 = .ok (.iconst 1, 1) := by decide +kernel
theorem dX12_isIn_290 : decode cX12_isIn 290 = .ok (.goto 4, 3) := by decide +kernel
theorem dX12_isIn_293 : decode cX12_isIn 293 = .ok (.iconst 0, 1) := by decide +kernel
theorem dX12_isIn_294 : decode cX12_isIn 294 = .ok (.ireturn, 1) := by decide +kernel
theorem dX12_isIn_295 : decode cX12_isIn 295 = .ok (.iload 9, 2) := by decide +kernel
theorem dX12_isIn_297 : decode cX12_isIn 297 = .ok (.ifCond .lt 7, 3) := by decide +kernel
theorem dX12_isIn_300 : decode cX12_isIn 300 = .ok (.iconst 1, 1) := by decide +kernel
theorem dX12_isIn_301 : decode cX12_isIn 301 = .ok (.goto 4, 3) := by decide +kernel
theorem dX12_isIn_304 : decode cX12_isIn 304 = .ok (.iconst 0, 1) := by decide +kernel
theorem dX12_isIn_305 : decode cX12_isIn 305 = .ok (.ireturn, 1) := by decide +kernel
theorem dX12_isIn_306 : decode cX12_isIn 306 = .ok (.iload 9, 2) := by decide +kernel
theorem dX12_isIn_308 : decode cX12_isIn 308 = .ok (.ifCond .ge 7, 3) := by decide +kernel
theorem dX12_isIn_311 : decode cX12_isIn 311 = .ok (.iconst 1, 1) := by decide +kernel
theorem dX12_isIn_312 : decode cX12_isIn 312 = .ok (.goto 4, 3) := by decide +kernel
theorem dX12_isIn_315 : decode cX12_isIn 315 = .ok (.iconst 0, 1) := by decide +kernel
theorem dX12_isIn_316 : decode cX12_isIn 316 = .ok (.ireturn, 1) := by decide +kernel
theorem dX12_isIn_317 : decode cX12_isIn 317 = .ok (.iload 9, 2) := by decide +kernel
theorem dX12_isIn_319 : decode cX12_isIn 319 = .ok (.ifCond .lt 62, 3) := by decide +kernel
theorem dX12_isIn_322 : decode cX12_isIn 322 = .ok (.iload 4, 2) := by decide +kernel
theorem dX12_isIn_324 : decode cX12_isIn 324 = .ok (.ifCond .le 18, 3) := by decide +kernel
theorem dX12_isIn_327 : decode cX12_isIn 327 = .ok (.aload_n 0, 1) := by decide +kernel
theorem dX12_isIn_328 : decode cX12_isIn 328 = .ok (.iload_n 2, 1) := by decide +kernel
theorem dX12_isIn_329 : decode cX12_isIn 329 = .ok (.iload 4, 2) := by decide +kernel
theorem dX12_isIn_331 : decode cX12_isIn 331 = .ok (.iconst 1, 1) := by decide +kernel
theorem dX12_isIn_332 : decode cX12_isIn 332 = .ok (.iadd, 1) := by decide +kernel
theorem dX12_isIn_333 : decode cX12_isIn 333 = .ok (.iconst 0, 1) := by decide +kernel
theorem dX12_isIn_334 : decode cX12_isIn 334 = .ok (.iconst 0, 1) := by decide +kernel
theorem dX12_isIn_335 : decode cX12_isIn 335 = .ok (.iconst 0, 1) := by decide +kernel
theorem dX12_isIn_336 : decode cX12_isIn 336 = .ok (.invokevirtual 85, 3) := by decide +kernel
theorem dX12_isIn_339 : decode cX12_isIn 339 = .ok (.goto 35, 3) := by decide +kernel
theorem dX12_isIn_342 : decode cX12_isIn 342 = .ok (.iload 5, 2) := by decide +kernel
theorem dX12_isIn_344 : decode cX12_isIn 344 = .ok (.ifCond .le 18, 3) := by decide +kernel
theorem dX12_isIn_347 : decode cX12_isIn 347 = .ok (.aload_n 0, 1) := by decide +kernel
theorem dX12_isIn_348 : decode cX12_isIn 348 = .ok (.iload_n 2, 1) := by decide +kernel
theorem dX12_isIn_349 : decode cX12_isIn 349 = .ok (.iconst 0, 1) := by decide +kernel
theorem dX12_isIn_350 : decode cX12_isIn 350 = .ok (.iload 5, 2) := by decide +kernel
theorem dX12_isIn_352 : decode cX12_isIn 352 = .ok (.iconst 1, 1) := by decide +kernel
theorem dX12_isIn_353 : decode cX12_isIn 353 = .ok (.iadd, 1) := by decide +kernel
theorem dX12_isIn_354 : decode cX12_isIn 354 = .ok (.iconst 0, 1) := by decide +kernel
theorem dX12_isIn_355 : decode cX12_isIn 355 = .ok (.iconst 0, 1) := by decide +kernel
theorem dX12_isIn_356 : decode cX12_isIn 356 = .ok (.invokevirtual 85, 3) := by decide +kernel
theorem dX12_isIn_359 : decode cX12_isIn 359 = .ok (.goto 15, 3) := by decide +kernel
theorem dX12_isIn_362 : decode cX12_isIn 362 = .ok (.aload_n 0, 1) := by decide +kernel
theorem dX12_isIn_363 : decode cX12_isIn 363 = .ok (.iload_n 2, 1) := by decide +kernel
theorem dX12_isIn_364 : decode cX12_isIn 364 = .ok (.iconst 0, 1) := by decide +kernel
theorem dX12_isIn_365 : decode cX12_isIn 365 = .ok (.iconst 0, 1) := by decide +kernel
theorem dX12_isIn_366 : decode cX12_isIn 366 = .ok (.iload 6, 2) := by decide +kernel
theorem dX12_isIn_368 : decode cX12_isIn 368 = .ok (.iconst 1, 1) := by decide +kernel
theorem dX12_isIn_369 : decode cX12_isIn 369 = .ok (.iadd, 1) := by decide +kernel
theorem dX12_isIn_370 : decode cX12_isIn 370 = .ok (.iconst 0, 1) := by decide +kernel
theorem dX12_isIn_371 : decode cX12_isIn 371 = .ok (.invokevirtual 85, 3) := by decide +kernel
theorem dX12_isIn_374 : decode cX12_isIn 374 = .ok (.ifCond .ge 7, 3) := by decide +kernel
theorem dX12_isIn_377 : decode cX12_isIn 377 = .ok (.iconst 1, 1) := by decide +kernel
theorem dX12_isIn_378 : decode cX12_isIn 378 = .ok (.goto 4, 3) := by decide +kernel
theorem dX12_isIn_381 : decode cX12_isIn 381 = .ok (.iconst 0, 1) := by decide +kernel
theorem dX12_isIn_382 : decode cX12_isIn 382 = .ok (.ireturn, 1) := by decide +kernel
theorem dX12_isIn_383 : decode cX12_isIn 383 = .ok (.iload 9, 2) := by decide +kernel
theorem dX12_isIn_385 : decode cX12_isIn 385 = .ok (.ifCond .lt 23, 3) := by decide +kernel
theorem dX12_isIn_388 : decode cX12_isIn 388 = .ok (.aload_n 0, 1) := by decide +kernel
theorem dX12_isIn_389 : decode cX12_isIn 389 = .ok (.iload_n 2, 1) := by decide +kernel
theorem dX12_isIn_390 : decode cX12_isIn 390 = .ok (.iload 4, 2) := by decide +kernel
theorem dX12_isIn_392 : decode cX12_isIn 392 = .ok (.iload 5, 2) := by decide +kernel
theorem dX12_isIn_394 : decode cX12_isIn 394 = .ok (.iconst 1, 1) := by decide +kernel
theorem dX12_isIn_395 : decode cX12_isIn 395 = .ok (.iadd, 1) := by decide +kernel
theorem dX12_isIn_396 : decode cX12_isIn 396 = .ok (.iconst 0, 1) := by decide +kernel
theorem dX12_isIn_397 : decode cX12_isIn 397 = .ok (.iconst 0, 1) := by decide +kernel
theorem dX12_isIn_398 : decode cX12_isIn 398 = .ok (.invokevirtual 85, 3) := by decide +kernel
theorem dX12_isIn_401 : decode cX12_isIn 401 = .ok (.ifCond .ge 7, 3) := by decide +kernel
theorem dX12_isIn_404 : decode cX12_isIn 404 = .ok (.iconst 1, 1) := by decide +kernel
theorem dX12_isIn_405 : decode cX12_isIn 405 = .ok (.goto 4, 3) := by decide +kernel
theorem dX12_isIn_408 : decode cX12_isIn 408 = .ok (.iconst 0, 1) := by decide +kernel
theorem dX12_isIn_409 : decode cX12_isIn 409 = .ok (.ireturn, 1) := by decide +kernel
theorem dX12_isIn_410 : decode cX12_isIn 410 = .ok (.aload_n 0, 1) := by decide +kernel
theorem dX12_isIn_411 : decode cX12_isIn 411 = .ok (.getfield 7, 3) := by decide +kernel
theorem dX12_isIn_414 : decode cX12_isIn 414 = .ok (.bipush 9, 2) := by decide +kernel
theorem dX12_isIn_416 : decode cX12_isIn 416 = .ok (.iload_n 2, 1) := by decide +kernel
theorem dX12_isIn_417 : decode cX12_isIn 417 = .ok (.imul, 1) := by decide +kernel
theorem dX12_isIn_418 : decode cX12_isIn 418 = .ok (.iconst 1, 1) := by decide +kernel
theorem dX12_isIn_419 : decode cX12_isIn 419 = .ok (.iadd, 1) := by decide +kernel
theorem dX12_isIn_420 : decode cX12_isIn 420 = .ok (.iaload, 1) := by decide +kernel
theorem dX12_isIn_421 : decode cX12_isIn 421 = .ok (.iload 4, 2) := by decide +kernel
theorem dX12_isIn_423 : decode cX12_isIn 423 = .ok (.if_icmp .ne 7, 3) := by decide +kernel
theorem dX12_isIn_426 : decode cX12_isIn 426 = .ok (.iconst 1, 1) := by decide +kernel
theorem dX12_isIn_427 : decode cX12_isIn 427 = .ok (.goto 4, 3) := by decide +kernel
theorem dX12_isIn_430 : decode cX12_isIn 430 = .ok (.iconst 0, 1) := by decide +kernel
theorem dX12_isIn_431 : decode cX12_isIn 431 = .ok (.ireturn, 1) := by decide +kernel
theorem dX12_isIn_432 : decode cX12_isIn 432 = .ok (.aload_n 0, 1) := by decide +kernel
theorem dX12_isIn_433 : decode cX12_isIn 433 = .ok (.getfield 7, 3) := by decide +kernel
theorem dX12_isIn_436 : decode cX12_isIn 436 = .ok (.bipush 9, 2) := by decide +kernel
theorem dX12_isIn_438 : decode cX12_isIn 438 = .ok (.iload_n 2, 1) := by decide +kernel
theorem dX12_isIn_439 : decode cX12_isIn 439 = .ok (.imul, 1) := by decide +kernel
theorem dX12_isIn_440 : decode cX12_isIn 440 = .ok (.iconst 1, 1) := by decide +kernel
theorem dX12_isIn_441 : decode cX12_isIn 441 = .ok (.iadd, 1) := by decide +kernel
theorem dX12_isIn_442 : decode cX12_isIn 442 = .ok (.iaload, 1) := by decide +kernel
theorem dX12_isIn_443 : decode cX12_isIn 443 = .ok (.iload 4, 2) := by decide +kernel
theorem dX12_isIn_445 : decode cX12_isIn 445 = .ok (.if_icmp .ne 23, 3) := by decide +kernel
theorem dX12_isIn_448 : decode cX12_isIn 448 = .ok (.aload_n 0, 1) := by decide +kernel
theorem dX12_isIn_449 : decode cX12_isIn 449 = .ok (.getfield 7, 3) := by decide +kernel
theorem dX12_isIn_452 : decode cX12_isIn 452 = .ok (.bipush 9, 2) := by decide +kernel
theorem dX12_isIn_454 : decode cX12_isIn 454 = .ok (.iload_n 2, 1) := by decide +kernel
theorem dX12_isIn_455 : decode cX12_isIn 455 = .ok (.imul, 1) := by decide +kernel
theorem dX12_isIn_456 : decode cX12_isIn 456 = .ok (.iconst 2, 1) := by decide +kernel
theorem dX12_isIn_457 : decode cX12_isIn 457 = .ok (.iadd, 1) := by decide +kernel
theorem dX12_isIn_458 : decode cX12_isIn 458 = .ok (.iaload, 1) := by decide +kernel
theorem dX12_isIn_459 : decode cX12_isIn 459 = .ok (.iload 5, 2) := by decide +kernel
theorem dX12_isIn_461 : decode cX12_isIn 461 = .ok (.if_icmp .ne 7, 3) := by decide +kernel
theorem dX12_isIn_464 : decode cX12_isIn 464 = .ok (.iconst 1, 1) := by decide +kernel
theorem dX12_isIn_465 : decode cX12_isIn 465 = .ok (.goto 4, 3) := by decide +kernel
theorem dX12_isIn_468 : decode cX12_isIn 468 = .ok (.iconst 0, 1) := by decide +kernel
theorem dX12_isIn_469 : decode cX12_isIn 469 = .ok (.ireturn, 1) := by decide +kernel
theorem dX12_isIn_470 : decode cX12_isIn 470 = .ok (.iconst 1, 1) := by decide +kernel
theorem dX12_isIn_471 : decode cX12_isIn 471 = .ok (.ireturn, 1) := by decide +kernel
theorem dX12_fill_0 : decode cX12_fill 0 = .ok (.iconst 0, 1) := by decide +kernel
theorem dX12_fill_1 : decode cX12_fill 1 = .ok (.istore_n 2, 1) := by decide +kernel
theorem dX12_fill_2 : decode cX12_fill 2 = .ok (.iload_n 2, 1) := by decide +kernel
theorem dX12_fill_3 : decode cX12_fill 3 = .ok (.aload_n 0, 1) := by decide +kernel
theorem dX12_fill_4 : decode cX12_fill 4 = .ok (.getfield 79, 3) := by decide +kernel
theorem dX12_fill_7 : decode cX12_fill 7 = .ok (.if_icmp .ge 26, 3) := by decide +kernel
theorem dX12_fill_10 : decode cX12_fill 10 = .ok (.aload_n 0, 1) := by decide +kernel
theorem dX12_fill_11 : decode cX12_fill 11 = .ok (.getfield 22, 3) := by decide +kernel
theorem dX12_fill_14 : decode cX12_fill 14 = .ok (.bipush 24, 2) := by decide +kernel
theorem dX12_fill_16 : decode cX12_fill 16 = .ok (.iload_n 1, 1) := by decide +kernel
theorem dX12_fill_17 : decode cX12_fill 17 = .ok (.imul, 1) := by decide +kernel
theorem dX12_fill_18 : decode cX12_fill 18 = .ok (.iload_n 2, 1) := by decide +kernel
theorem dX12_fill_19 : decode cX12_fill 19 = .ok (.iadd, 1) := by decide +kernel
theorem dX12_fill_20 : decode cX12_fill 20 = .ok (.aload_n 0, 1) := by decide +kernel
theorem dX12_fill_21 : decode cX12_fill 21 = .ok (.iload_n 1, 1) := by decide +kernel
theorem dX12_fill_22 : decode cX12_fill 22 = .ok (.iload_n 2, 1) := by decide +kernel
theorem dX12_fill_23 : decode cX12_fill 23 = .ok (.invokevirtual 89, 3) := by decide +kernel
theorem dX12_fill_26 : decode cX12_fill 26 = .ok (.bastore, 1) := by decide +kernel
theorem dX12_fill_27 : decode cX12_fill 27 = .ok (.iinc 2 1, 3) := by decide +kernel
theorem dX12_fill_30 : decode cX12_fill 30 = .ok (.goto (-28), 3) := by decide +kernel
theorem dX12_fill_33 : decode cX12_fill 33 = .ok (.return_, 1) := by decide +kernel
theorem dX12_publish_0 : decode cX12_publish 0 = .ok (.iload_n 1, 1) := by decide +kernel
theorem dX12_publish_1 : decode cX12_publish 1 = .ok (.invokestatic 93, 3) := by decide +kernel
theorem dX12_publish_4 : decode cX12_publish 4 = .ok (.ifCond .eq 17, 3) := by decide +kernel
theorem dX12_publish_7 : decode cX12_publish 7 = .ok (.iload 6, 2) := by decide +kernel
theorem dX12_publish_9 : decode cX12_publish 9 = .ok (.iconst 0, 1) := by decide +kernel
theorem dX12_publish_10 : decode cX12_publish 10 = .ok (.iconst 1, 1) := by decide +kernel
theorem dX12_publish_11 : decode cX12_publish 11 = .ok (.invokestatic 75, 3) := by decide +kernel
theorem dX12_publish_14 : decode cX12_publish 14 = .ok (.ifCond .eq 7, 3) := by decide +kernel
theorem dX12_publish_17 : decode cX12_publish 17 = .ok (.iconst 1, 1) := by decide +kernel
theorem dX12_publish_18 : decode cX12_publish 18 = .ok (.goto 4, 3) := by decide +kernel
theorem dX12_publish_21 : decode cX12_publish 21 = .ok (.iconst 0, 1) := by decide +kernel
theorem dX12_publish_22 : decode cX12_publish 22 = .ok (.istore 7, 2) := by decide +kernel
theorem dX12_publish_24 : decode cX12_publish 24 = .ok (.iload_n 2, 1) := by decide +kernel
theorem dX12_publish_25 : decode cX12_publish 25 = .ok (.iconst 0, 1) := by decide +kernel
theorem dX12_publish_26 : decode cX12_publish 26 = .ok (.bipush 9, 2) := by decide +kernel
theorem dX12_publish_28 : decode cX12_publish 28 = .ok (.invokestatic 75, 3) := by decide +kernel
theorem dX12_publish_31 : decode cX12_publish 31 = .ok (.ifCond .eq 39, 3) := by decide +kernel
theorem dX12_publish_34 : decode cX12_publish 34 = .ok (.iload_n 3, 1) := by decide +kernel
theorem dX12_publish_35 : decode cX12_publish 35 = .ok (.iconst 0, 1) := by decide +kernel
theorem dX12_publish_36 : decode cX12_publish 36 = .ok (.bipush 9, 2) := by decide +kernel
theorem dX12_publish_38 : decode cX12_publish 38 = .ok (.invokestatic 75, 3) := by decide +kernel
theorem dX12_publish_41 : decode cX12_publish 41 = .ok (.ifCond .eq 29, 3) := by decide +kernel
theorem dX12_publish_44 : decode cX12_publish 44 = .ok (.iload 4, 2) := by decide +kernel
theorem dX12_publish_46 : decode cX12_publish 46 = .ok (.iconst 0, 1) := by decide +kernel
theorem dX12_publish_47 : decode cX12_publish 47 = .ok (.bipush 9, 2) := by decide +kernel
theorem dX12_publish_49 : decode cX12_publish 49 = .ok (.invokestatic 75, 3) := by decide +kernel
theorem dX12_publish_52 : decode cX12_publish 52 = .ok (.ifCond .eq 18, 3) := by decide +kernel
theorem dX12_publish_55 : decode cX12_publish 55 = .ok (.iload 5, 2) := by decide +kernel
theorem dX12_publish_57 : decode cX12_publish 57 = .ok (.iconst 0, 1) := by decide +kernel
theorem dX12_publish_58 : decode cX12_publish 58 = .ok (.bipush 9, 2) := by decide +kernel
theorem dX12_publish_60 : decode cX12_publish 60 = .ok (.invokestatic 75, 3) := by decide +kernel
theorem dX12_publish_63 : decode cX12_publish 63 = .ok (.ifCond .eq 7, 3) := by decide +kernel
theorem dX12_publish_66 : decode cX12_publish 66 = .ok (.iconst 1, 1) := by decide +kernel
theorem dX12_publish_67 : decode cX12_publish 67 = .ok (.goto 4, 3) := by decide +kernel
theorem dX12_publish_70 : decode cX12_publish 70 = .ok (.iconst 0, 1) := by decide +kernel
theorem dX12_publish_71 : decode cX12_publish 71 = .ok (.istore 8, 2) := by decide +kernel
theorem dX12_publish_73 : decode cX12_publish 73 = .ok (.iconst 0, 1) := by decide +kernel
theorem dX12_publish_74 : decode cX12_publish 74 = .ok (.istore 9, 2) := by decide +kernel
theorem dX12_publish_76 : decode cX12_publish 76 = .ok (.iconst 0, 1) := by decide +kernel
theorem dX12_publish_77 : decode cX12_publish 77 = .ok (.istore 10, 2) := by decide +kernel
theorem dX12_publish_79 : decode cX12_publish 79 = .ok (.iconst 0, 1) := by decide +kernel
theorem dX12_publish_80 : decode cX12_publish 80 = .ok (.istore 11, 2) := by decide +kernel
theorem dX12_publish_82 : decode cX12_publish 82 = .ok (.iload 11, 2) := by decide +kernel
theorem dX12_publish_84 : decode cX12_publish 84 = .ok (.aload_n 0, 1) := by decide +kernel
theorem dX12_publish_85 : decode cX12_publish 85 = .ok (.getfield 79, 3) := by decide +kernel
theorem dX12_publish_88 : decode cX12_publish 88 = .ok (.if_icmp .ge 73, 3) := by decide +kernel
theorem dX12_publish_91 : decode cX12_publish 91 = .ok (.aload_n 0, 1) := by decide +kernel
theorem dX12_publish_92 : decode cX12_publish 92 = .ok (.iload 11, 2) := by decide +kernel
theorem dX12_publish_94 : decode cX12_publish 94 = .ok (.invokevirtual 97, 3) := by decide +kernel
theorem dX12_publish_97 : decode cX12_publish 97 = .ok (.iload_n 1, 1) := by decide +kernel
theorem dX12_publish_98 : decode cX12_publish 98 = .ok (.if_icmp .ne 7, 3) := by decide +kernel
theorem dX12_publish_101 : decode cX12_publish 101 = .ok (.iconst 1, 1) := by decide +kernel
theorem dX12_publish_102 : decode cX12_publish 102 = .ok (.goto 4, 3) := by decide +kernel
theorem dX12_publish_105 : decode cX12_publish 105 = .ok (.iconst 0, 1) := by decide +kernel
theorem dX12_publish_106 : decode cX12_publish 106 = .ok (.istore 12, 2) := by decide +kernel
theorem dX12_publish_108 : decode cX12_publish 108 = .ok (.iload 9, 2) := by decide +kernel
theorem dX12_publish_110 : decode cX12_publish 110 = .ok (.iload 12, 2) := by decide +kernel
theorem dX12_publish_112 : decode cX12_publish 112 = .ok (.ifCond .eq 7, 3) := by decide +kernel
theorem dX12_publish_115 : decode cX12_publish 115 = .ok (.iconst 1, 1) := by decide +kernel
theorem dX12_publish_116 : decode cX12_publish 116 = .ok (.goto 4, 3) := by decide +kernel
theorem dX12_publish_119 : decode cX12_publish 119 = .ok (.iconst 0, 1) := by decide +kernel
theorem dX12_publish_120 : decode cX12_publish 120 = .ok (.iadd, 1) := by decide +kernel
theorem dX12_publish_121 : decode cX12_publish 121 = .ok (.istore 9, 2) := by decide +kernel
theorem dX12_publish_123 : decode cX12_publish 123 = .ok (.iload 10, 2) := by decide +kernel
theorem dX12_publish_125 : decode cX12_publish 125 = .ok (.ifCond .ne 23, 3) := by decide +kernel
theorem dX12_publish_128 : decode cX12_publish 128 = .ok (.iload 12, 2) := by decide +kernel
theorem dX12_publish_130 : decode cX12_publish 130 = .ok (.ifCond .eq 22, 3) := by decide +kernel
theorem dX12_publish_133 : decode cX12_publish 133 = .ok (.aload_n 0, 1) := by decide +kernel
theorem dX12_publish_134 : decode cX12_publish 134 = .ok (.iload 11, 2) := by decide +kernel
theorem dX12_publish_136 : decode cX12_publish 136 = .ok (.iload_n 2, 1) := by decide +kernel
theorem dX12_publish_137 : decode cX12_publish 137 = .ok (.iload_n 3, 1) := by decide +kernel
theorem dX12_publish_138 : decode cX12_publish 138 = .ok (.iload 4, 2) := by decide +kernel
theorem dX12_publish_140 : decode cX12_publish 140 = .ok (.iload 5, 2) := by decide +kernel
theorem dX12_publish_142 : decode cX12_publish 142 = .ok (.invokevirtual 85, 3) := by decide +kernel
theorem dX12_publish_145 : decode cX12_publish 145 = .ok (.ifCond .ne 7, 3) := by decide +kernel
theorem dX12_publish_148 : decode cX12_publish 148 = .ok (.iconst 1, 1) := by decide +kernel
theorem dX12_publish_149 : decode cX12_publish 149 = .ok (.goto 4, 3) := by decide +kernel
theorem dX12_publish_152 : decode cX12_publish 152 = .ok (.iconst 0, 1) := by decide +kernel
theorem dX12_publish_153 : decode cX12_publish 153 = .ok (.istore 10, 2) := by decide +kernel
theorem dX12_publish_155 : decode cX12_publish 155 = .ok (.iinc 11 1, 3) := by decide +kernel
theorem dX12_publish_158 : decode cX12_publish 158 = .ok (.goto (-76), 3) := by decide +kernel
theorem dX12_publish_161 : decode cX12_publish 161 = .ok (.aload_n 0, 1) := by decide +kernel
theorem dX12_publish_162 : decode cX12_publish 162 = .ok (.iload 7, 2) := by decide +kernel
theorem dX12_publish_164 : decode cX12_publish 164 = .ok (.ifCond .ne 7, 3) := by decide +kernel
theorem dX12_publish_167 : decode cX12_publish 167 = .ok (.iconst 1, 1) := by decide +kernel
theorem dX12_publish_168 : decode cX12_publish 168 = .ok (.goto 28, 3) := by decide +kernel
theorem dX12_publish_171 : decode cX12_publish 171 = .ok (.iload 8, 2) := by decide +kernel
theorem dX12_publish_173 : decode cX12_publish 173 = .ok (.ifCond .ne 7, 3) := by decide +kernel
theorem dX12_publish_176 : decode cX12_publish 176 = .ok (.iconst 2, 1) := by decide +kernel
theorem dX12_publish_177 : decode cX12_publish 177 = .ok (.goto 19, 3) := by decide +kernel
theorem dX12_publish_180 : decode cX12_publish 180 = .ok (.iload 9, 2) := by decide +kernel
theorem dX12_publish_182 : decode cX12_publish 182 = .ok (.iconst 4, 1) := by decide +kernel
theorem dX12_publish_183 : decode cX12_publish 183 = .ok (.if_icmp .eq 8, 3) := by decide +kernel
theorem dX12_publish_186 : decode cX12_publish 186 = .ok (.iload 10, 2) := by decide +kernel
theorem dX12_publish_188 : decode cX12_publish 188 = .ok (.ifCond .eq 7, 3) := by decide +kernel
theorem dX12_publish_191 : decode cX12_publish 191 = .ok (.iconst 3, 1) := by decide +kernel
theorem dX12_publish_192 : decode cX12_publish 192 = .ok (.goto 4, 3) := by decide +kernel
theorem dX12_publish_195 : decode cX12_publish 195 = .ok (.iconst 0, 1) := by decide +kernel
theorem dX12_publish_196 : decode cX12_publish 196 = .ok (.invokevirtual 101, 3) := by decide +kernel
theorem dX12_publish_199 : decode cX12_publish 199 = .ok (.ifCond .ne 5, 3) := by decide +kernel
theorem dX12_publish_202 : decode cX12_publish 202 = .ok (.iconst 0, 1) := by decide +kernel
theorem dX12_publish_203 : decode cX12_publish 203 = .ok (.ireturn, 1) := by decide +kernel
theorem dX12_publish_204 : decode cX12_publish 204 = .ok (.bipush 9, 2) := by decide +kernel
theorem dX12_publish_206 : decode cX12_publish 206 = .ok (.aload_n 0, 1) := by decide +kernel
theorem dX12_publish_207 : decode cX12_publish 207 = .ok (.getfield 79, 3) := by decide +kernel
theorem dX12_publish_210 : decode cX12_publish 210 = .ok (.imul, 1) := by decide +kernel
theorem dX12_publish_211 : decode cX12_publish 211 = .ok (.istore 11, 2) := by decide +kernel
theorem dX12_publish_213 : decode cX12_publish 213 = .ok (.aload_n 0, 1) := by decide +kernel
theorem dX12_publish_214 : decode cX12_publish 214 = .ok (.getfield 7, 3) := by decide +kernel
theorem dX12_publish_217 : decode cX12_publish 217 = .ok (.iload 11, 2) := by decide +kernel
theorem dX12_publish_219 : decode cX12_publish 219 = .ok (.iload_n 1, 1) := by decide +kernel
theorem dX12_publish_220 : decode cX12_publish 220 = .ok (.iastore, 1) := by decide +kernel
theorem dX12_publish_221 : decode cX12_publish 221 = .ok (.aload_n 0, 1) := by decide +kernel
theorem dX12_publish_222 : decode cX12_publish 222 = .ok (.getfield 7, 3) := by decide +kernel
theorem dX12_publish_225 : decode cX12_publish 225 = .ok (.iload 11, 2) := by decide +kernel
theorem dX12_publish_227 : decode cX12_publish 227 = .ok (.iconst 1, 1) := by decide +kernel
theorem dX12_publish_228 : decode cX12_publish 228 = .ok (.iadd, 1) := by decide +kernel
theorem dX12_publish_229 : decode cX12_publish 229 = .ok (.iload_n 2, 1) := by decide +kernel
theorem dX12_publish_230 : decode cX12_publish 230 = .ok (.iastore, 1) := by decide +kernel
theorem dX12_publish_231 : decode cX12_publish 231 = .ok (.aload_n 0, 1) := by decide +kernel
theorem dX12_publish_232 : decode cX12_publish 232 = .ok (.getfield 7, 3) := by decide +kernel
theorem dX12_publish_235 : decode cX12_publish 235 = .ok (.iload 11, 2) := by decide +kernel
theorem dX12_publish_237 : decode cX12_publish 237 = .ok (.iconst 2, 1) := by decide +kernel
theorem dX12_publish_238 : decode cX12_publish 238 = .ok (.iadd, 1) := by decide +kernel
theorem dX12_publish_239 : decode cX12_publish 239 = .ok (.iload_n 3, 1) := by decide +kernel
theorem dX12_publish_240 : decode cX12_publish 240 = .ok (.iastore, 1) := by decide +kernel
theorem dX12_publish_241 : decode cX12_publish 241 = .ok (.aload_n 0, 1) := by decide +kernel
theorem dX12_publish_242 : decode cX12_publish 242 = .ok (.getfield 7, 3) := by decide +kernel
theorem dX12_publish_245 : decode cX12_publish 245 = .ok (.iload 11, 2) := by decide +kernel
theorem dX12_publish_247 : decode cX12_publish 247 = .ok (.iconst 3, 1) := by decide +kernel
theorem dX12_publish_248 : decode cX12_publish 248 = .ok (.iadd, 1) := by decide +kernel
theorem dX12_publish_249 : decode cX12_publish 249 = .ok (.iload 4, 2) := by decide +kernel
theorem dX12_publish_251 : decode cX12_publish 251 = .ok (.iastore, 1) := by decide +kernel
theorem dX12_publish_252 : decode cX12_publish 252 = .ok (.aload_n 0, 1) := by decide +kernel
theorem dX12_publish_253 : decode cX12_publish 253 = .ok (.getfield 7, 3) := by decide +kernel
theorem dX12_publish_256 : decode cX12_publish 256 = .ok (.iload 11, 2) := by decide +kernel
theorem dX12_publish_258 : decode cX12_publish 258 = .ok (.iconst 4, 1) := by decide +kernel
theorem dX12_publish_259 : decode cX12_publish 259 = .ok (.iadd, 1) := by decide +kernel
theorem dX12_publish_260 : decode cX12_publish 260 = .ok (.iload 5, 2) := by decide +kernel
theorem dX12_publish_262 : decode cX12_publish 262 = .ok (.iastore, 1) := by decide +kernel
theorem dX12_publish_263 : decode cX12_publish 263 = .ok (.aload_n 0, 1) := by decide +kernel
theorem dX12_publish_264 : decode cX12_publish 264 = .ok (.getfield 7, 3) := by decide +kernel
theorem dX12_publish_267 : decode cX12_publish 267 = .ok (.iload 11, 2) := by decide +kernel
theorem dX12_publish_269 : decode cX12_publish 269 = .ok (.iconst 5, 1) := by decide +kernel
theorem dX12_publish_270 : decode cX12_publish 270 = .ok (.iadd, 1) := by decide +kernel
theorem dX12_publish_271 : decode cX12_publish 271 = .ok (.iload 6, 2) := by decide +kernel
theorem dX12_publish_273 : decode cX12_publish 273 = .ok (.iastore, 1) := by decide +kernel
theorem dX12_publish_274 : decode cX12_publish 274 = .ok (.aload_n 0, 1) := by decide +kernel
theorem dX12_publish_275 : decode cX12_publish 275 = .ok (.getfield 7, 3) := by decide +kernel
theorem dX12_publish_278 : decode cX12_publish 278 = .ok (.iload 11, 2) := by decide +kernel
theorem dX12_publish_280 : decode cX12_publish 280 = .ok (.bipush 7, 2) := by decide +kernel
theorem dX12_publish_282 : decode cX12_publish 282 = .ok (.iadd, 1) := by decide +kernel
theorem dX12_publish_283 : decode cX12_publish 283 = .ok (.bipush 7, 2) := by decide +kernel
theorem dX12_publish_285 : decode cX12_publish 285 = .ok (.iastore, 1) := by decide +kernel
theorem dX12_publish_286 : decode cX12_publish 286 = .ok (.aload_n 0, 1) := by decide +kernel
theorem dX12_publish_287 : decode cX12_publish 287 = .ok (.dup, 1) := by decide +kernel
theorem dX12_publish_288 : decode cX12_publish 288 = .ok (.getfield 79, 3) := by decide +kernel
theorem dX12_publish_291 : decode cX12_publish 291 = .ok (.iconst 1, 1) := by decide +kernel
theorem dX12_publish_292 : decode cX12_publish 292 = .ok (.iadd, 1) := by decide +kernel
theorem dX12_publish_293 : decode cX12_publish 293 = .ok (.putfield 79, 3) := by decide +kernel
theorem dX12_publish_296 : decode cX12_publish 296 = .ok (.iconst 0, 1) := by decide +kernel
theorem dX12_publish_297 : decode cX12_publish 297 = .ok (.istore 12, 2) := by decide +kernel
theorem dX12_publish_299 : decode cX12_publish 299 = .ok (.iload 12, 2) := by decide +kernel
theorem dX12_publish_301 : decode cX12_publish 301 = .ok (.aload_n 0, 1) := by decide +kernel
theorem dX12_publish_302 : decode cX12_publish 302 = .ok (.getfield 82, 3) := by decide +kernel
theorem dX12_publish_305 : decode cX12_publish 305 = .ok (.if_icmp .ge 38, 3) := by decide +kernel
theorem dX12_publish_308 : decode cX12_publish 308 = .ok (.aload_n 0, 1) := by decide +kernel
theorem dX12_publish_309 : decode cX12_publish 309 = .ok (.getfield 22, 3) := by decide +kernel
theorem dX12_publish_312 : decode cX12_publish 312 = .ok (.bipush 24, 2) := by decide +kernel
theorem dX12_publish_314 : decode cX12_publish 314 = .ok (.iload 12, 2) := by decide +kernel
theorem dX12_publish_316 : decode cX12_publish 316 = .ok (.imul, 1) := by decide +kernel
theorem dX12_publish_317 : decode cX12_publish 317 = .ok (.aload_n 0, 1) := by decide +kernel
theorem dX12_publish_318 : decode cX12_publish 318 = .ok (.getfield 79, 3) := by decide +kernel
theorem dX12_publish_321 : decode cX12_publish 321 = .ok (.iadd, 1) := by decide +kernel
theorem dX12_publish_322 : decode cX12_publish 322 = .ok (.iconst 1, 1) := by decide +kernel
theorem dX12_publish_323 : decode cX12_publish 323 = .ok (.isub, 1) := by decide +kernel
theorem dX12_publish_324 : decode cX12_publish 324 = .ok (.aload_n 0, 1) := by decide +kernel
theorem dX12_publish_325 : decode cX12_publish 325 = .ok (.iload 12, 2) := by decide +kernel
theorem dX12_publish_327 : decode cX12_publish 327 = .ok (.aload_n 0, 1) := by decide +kernel
theorem dX12_publish_328 : decode cX12_publish 328 = .ok (.getfield 79, 3) := by decide +kernel
theorem dX12_publish_331 : decode cX12_publish 331 = .ok (.iconst 1, 1) := by decide +kernel
theorem dX12_publish_332 : decode cX12_publish 332 = .ok (.isub, 1) := by decide +kernel
theorem dX12_publish_333 : decode cX12_publish 333 = .ok (.invokevirtual 89, 3) := by decide +kernel
theorem dX12_publish_336 : decode cX12_publish 336 = .ok (.bastore, 1) := by decide +kernel
theorem dX12_publish_337 : decode cX12_publish 337 = .ok (.iinc 12 1, 3) := by decide +kernel
theorem dX12_publish_340 : decode cX12_publish 340 = .ok (.goto (-41), 3) := by decide +kernel
theorem dX12_publish_343 : decode cX12_publish 343 = .ok (.aload_n 0, 1) := by decide +kernel
theorem dX12_publish_344 : decode cX12_publish 344 = .ok (.iconst 0, 1) := by decide +kernel
theorem dX12_publish_345 : decode cX12_publish 345 = .ok (.putfield 104, 3) := by decide +kernel
theorem dX12_publish_348 : decode cX12_publish 348 = .ok (.aload_n 0, 1) := by decide +kernel
theorem dX12_publish_349 : decode cX12_publish 349 = .ok (.getfield 79, 3) := by decide +kernel
theorem dX12_publish_352 : decode cX12_publish 352 = .ok (.iconst 1, 1) := by decide +kernel
theorem dX12_publish_353 : decode cX12_publish 353 = .ok (.isub, 1) := by decide +kernel
theorem dX12_publish_354 : decode cX12_publish 354 = .ok (.ireturn, 1) := by decide +kernel
theorem dX12_compare_0 : decode cX12_compare 0 = .ok (.aload_n 0, 1) := by decide +kernel
theorem dX12_compare_1 : decode cX12_compare 1 = .ok (.iload_n 1, 1) := by decide +kernel
theorem dX12_compare_2 : decode cX12_compare 2 = .ok (.invokevirtual 108, 3) := by decide +kernel
theorem dX12_compare_5 : decode cX12_compare 5 = .ok (.ifCond .eq 15, 3) := by decide +kernel
theorem dX12_compare_8 : decode cX12_compare 8 = .ok (.aload_n 0, 1) := by decide +kernel
theorem dX12_compare_9 : decode cX12_compare 9 = .ok (.iload_n 2, 1) := by decide +kernel
theorem dX12_compare_10 : decode cX12_compare 10 = .ok (.invokevirtual 108, 3) := by decide +kernel
theorem dX12_compare_13 : decode cX12_compare 13 = .ok (.ifCond .eq 7, 3) := by decide +kernel
theorem dX12_compare_16 : decode cX12_compare 16 = .ok (.iconst 1, 1) := by decide +kernel
theorem dX12_compare_17 : decode cX12_compare 17 = .ok (.goto 4, 3) := by decide +kernel
theorem dX12_compare_20 : decode cX12_compare 20 = .ok (.iconst 0, 1) := by decide +kernel
theorem dX12_compare_21 : decode cX12_compare 21 = .ok (.istore_n 3, 1) := by decide +kernel
theorem dX12_compare_22 : decode cX12_compare 22 = .ok (.aload_n 0, 1) := by decide +kernel
theorem dX12_compare_23 : decode cX12_compare 23 = .ok (.iload_n 3, 1) := by decide +kernel
theorem dX12_compare_24 : decode cX12_compare 24 = .ok (.ifCond .ne 7, 3) := by decide +kernel
theorem dX12_compare_27 : decode cX12_compare 27 = .ok (.iconst 1, 1) := by decide +kernel
theorem dX12_compare_28 : decode cX12_compare 28 = .ok (.goto 21, 3) := by decide +kernel
theorem dX12_compare_31 : decode cX12_compare 31 = .ok (.aload_n 0, 1) := by decide +kernel
theorem dX12_compare_32 : decode cX12_compare 32 = .ok (.iload_n 1, 1) := by decide +kernel
theorem dX12_compare_33 : decode cX12_compare 33 = .ok (.invokevirtual 97, 3) := by decide +kernel
theorem dX12_compare_36 : decode cX12_compare 36 = .ok (.aload_n 0, 1) := by decide +kernel
theorem dX12_compare_37 : decode cX12_compare 37 = .ok (.iload_n 2, 1) := by decide +kernel
theorem dX12_compare_38 : decode cX12_compare 38 = .ok (.invokevirtual 97, 3) := by decide +kernel
theorem dX12_compare_41 : decode cX12_compare 41 = .ok (.if_icmp .eq 7, 3) := by decide +kernel
theorem dX12_compare_44 : decode cX12_compare 44 = .ok (.iconst 2, 1) := by decide +kernel
theorem dX12_compare_45 : decode cX12_compare 45 = .ok (.goto 4, 3) := by decide +kernel
theorem dX12_compare_48 : decode cX12_compare 48 = .ok (.iconst 0, 1) := by decide +kernel
theorem dX12_compare_49 : decode cX12_compare 49 = .ok (.invokevirtual 101, 3) := by decide +kernel
theorem dX12_compare_52 : decode cX12_compare 52 = .ok (.ifCond .ne 5, 3) := by decide +kernel
theorem dX12_compare_55 : decode cX12_compare 55 = .ok (.iconst 0, 1) := by decide +kernel
theorem dX12_compare_56 : decode cX12_compare 56 = .ok (.ireturn, 1) := by decide +kernel
theorem dX12_compare_57 : decode cX12_compare 57 = .ok (.aload_n 0, 1) := by decide +kernel
theorem dX12_compare_58 : decode cX12_compare 58 = .ok (.iload_n 1, 1) := by decide +kernel
theorem dX12_compare_59 : decode cX12_compare 59 = .ok (.iload_n 2, 1) := by decide +kernel
theorem dX12_compare_60 : decode cX12_compare 60 = .ok (.invokevirtual 111, 3) := by decide +kernel
theorem dX12_compare_63 : decode cX12_compare 63 = .ok (.istore 4, 2) := by decide +kernel
theorem dX12_compare_65 : decode cX12_compare 65 = .ok (.iload 4, 2) := by decide +kernel
theorem dX12_compare_67 : decode cX12_compare 67 = .ok (.ifCond .le 7, 3) := by decide +kernel
theorem dX12_compare_70 : decode cX12_compare 70 = .ok (.iconst 1, 1) := by decide +kernel
theorem dX12_compare_71 : decode cX12_compare 71 = .ok (.goto 13, 3) := by decide +kernel
theorem dX12_compare_74 : decode cX12_compare 74 = .ok (.iload 4, 2) := by decide +kernel
theorem dX12_compare_76 : decode cX12_compare 76 = .ok (.ifCond .ge 7, 3) := by decide +kernel
theorem dX12_compare_79 : decode cX12_compare 79 = .ok (.iconst (-1), 1) := by decide +kernel
theorem dX12_compare_80 : decode cX12_compare 80 = .ok (.goto 4, 3) := by decide +kernel
theorem dX12_compare_83 : decode cX12_compare 83 = .ok (.iconst 0, 1) := by decide +kernel
theorem dX12_compare_84 : decode cX12_compare 84 = .ok (.ireturn, 1) := by decide +kernel
theorem dX12_yank_0 : decode cX12_yank 0 = .ok (.aload_n 0, 1) := by decide +kernel
theorem dX12_yank_1 : decode cX12_yank 1 = .ok (.aload_n 0, 1) := by decide +kernel
theorem dX12_yank_2 : decode cX12_yank 2 = .ok (.iload_n 1, 1) := by decide +kernel
theorem dX12_yank_3 : decode cX12_yank 3 = .ok (.invokevirtual 108, 3) := by decide +kernel
theorem dX12_yank_6 : decode cX12_yank 6 = .ok (.ifCond .eq 7, 3) := by decide +kernel
theorem dX12_yank_9 : decode cX12_yank 9 = .ok (.iconst 0, 1) := by decide +kernel
theorem dX12_yank_10 : decode cX12_yank 10 = .ok (.goto 4, 3) := by decide +kernel
theorem dX12_yank_13 : decode cX12_yank 13 = .ok (.iconst 1, 1) := by decide +kernel
theorem dX12_yank_14 : decode cX12_yank 14 = .ok (.invokevirtual 101, 3) := by decide +kernel
theorem dX12_yank_17 : decode cX12_yank 17 = .ok (.ifCond .ne 5, 3) := by decide +kernel
theorem dX12_yank_20 : decode cX12_yank 20 = .ok (.iconst 0, 1) := by decide +kernel
theorem dX12_yank_21 : decode cX12_yank 21 = .ok (.ireturn, 1) := by decide +kernel
theorem dX12_yank_22 : decode cX12_yank 22 = .ok (.aload_n 0, 1) := by decide +kernel
theorem dX12_yank_23 : decode cX12_yank 23 = .ok (.getfield 7, 3) := by decide +kernel
theorem dX12_yank_26 : decode cX12_yank 26 = .ok (.bipush 9, 2) := by decide +kernel
theorem dX12_yank_28 : decode cX12_yank 28 = .ok (.iload_n 1, 1) := by decide +kernel
theorem dX12_yank_29 : decode cX12_yank 29 = .ok (.imul, 1) := by decide +kernel
theorem dX12_yank_30 : decode cX12_yank 30 = .ok (.bipush 6, 2) := by decide +kernel
theorem dX12_yank_32 : decode cX12_yank 32 = .ok (.iadd, 1) := by decide +kernel
theorem dX12_yank_33 : decode cX12_yank 33 = .ok (.iconst 1, 1) := by decide +kernel
theorem dX12_yank_34 : decode cX12_yank 34 = .ok (.aload_n 0, 1) := by decide +kernel
theorem dX12_yank_35 : decode cX12_yank 35 = .ok (.getfield 7, 3) := by decide +kernel
theorem dX12_yank_38 : decode cX12_yank 38 = .ok (.bipush 9, 2) := by decide +kernel
theorem dX12_yank_40 : decode cX12_yank 40 = .ok (.iload_n 1, 1) := by decide +kernel
theorem dX12_yank_41 : decode cX12_yank 41 = .ok (.imul, 1) := by decide +kernel
theorem dX12_yank_42 : decode cX12_yank 42 = .ok (.bipush 6, 2) := by decide +kernel
theorem dX12_yank_44 : decode cX12_yank 44 = .ok (.iadd, 1) := by decide +kernel
theorem dX12_yank_45 : decode cX12_yank 45 = .ok (.iaload, 1) := by decide +kernel
theorem dX12_yank_46 : decode cX12_yank 46 = .ok (.isub, 1) := by decide +kernel
theorem dX12_yank_47 : decode cX12_yank 47 = .ok (.iastore, 1) := by decide +kernel
theorem dX12_yank_48 : decode cX12_yank 48 = .ok (.aload_n 0, 1) := by decide +kernel
theorem dX12_yank_49 : decode cX12_yank 49 = .ok (.iconst 0, 1) := by decide +kernel
theorem dX12_yank_50 : decode cX12_yank 50 = .ok (.putfield 104, 3) := by decide +kernel
theorem dX12_yank_53 : decode cX12_yank 53 = .ok (.aload_n 0, 1) := by decide +kernel
theorem dX12_yank_54 : decode cX12_yank 54 = .ok (.getfield 7, 3) := by decide +kernel
theorem dX12_yank_57 : decode cX12_yank 57 = .ok (.bipush 9, 2) := by decide +kernel
theorem dX12_yank_59 : decode cX12_yank 59 = .ok (.iload_n 1, 1) := by decide +kernel
theorem dX12_yank_60 : decode cX12_yank 60 = .ok (.imul, 1) := by decide +kernel
theorem dX12_yank_61 : decode cX12_yank 61 = .ok (.bipush 6, 2) := by decide +kernel
theorem dX12_yank_63 : decode cX12_yank 63 = .ok (.iadd, 1) := by decide +kernel
theorem dX12_yank_64 : decode cX12_yank 64 = .ok (.iaload, 1) := by decide +kernel
theorem dX12_yank_65 : decode cX12_yank 65 = .ok (.iconst 1, 1) := by decide +kernel
theorem dX12_yank_66 : decode cX12_yank 66 = .ok (.if_icmp .ne 7, 3) := by decide +kernel
theorem dX12_yank_69 : decode cX12_yank 69 = .ok (.iconst 1, 1) := by decide +kernel
theorem dX12_yank_70 : decode cX12_yank 70 = .ok (.goto 4, 3) := by decide +kernel
theorem dX12_yank_73 : decode cX12_yank 73 = .ok (.iconst 0, 1) := by decide +kernel
theorem dX12_yank_74 : decode cX12_yank 74 = .ok (.ireturn, 1) := by decide +kernel
theorem dX12_setPlatforms_0 : decode cX12_setPlatforms 0 = .ok (.aload_n 0, 1) := by decide +kernel
theorem dX12_setPlatforms_1 : decode cX12_setPlatforms 1 = .ok (.aload_n 0, 1) := by decide +kernel
theorem dX12_setPlatforms_2 : decode cX12_setPlatforms 2 = .ok (.iload_n 1, 1) := by decide +kernel
theorem dX12_setPlatforms_3 : decode cX12_setPlatforms 3 = .ok (.invokevirtual 108, 3) := by decide +kernel
theorem dX12_setPlatforms_6 : decode cX12_setPlatforms 6 = .ok (.ifCond .ne 7, 3) := by decide +kernel
theorem dX12_setPlatforms_9 : decode cX12_setPlatforms 9 = .ok (.iconst 1, 1) := by decide +kernel
theorem dX12_setPlatforms_10 : decode cX12_setPlatforms 10 = .ok (.goto 18, 3) := by decide +kernel
theorem dX12_setPlatforms_13 : decode cX12_setPlatforms 13 = .ok (.iload_n 2, 1) := by decide +kernel
theorem dX12_setPlatforms_14 : decode cX12_setPlatforms 14 = .ok (.iconst 0, 1) := by decide +kernel
theorem dX12_setPlatforms_15 : decode cX12_setPlatforms 15 = .ok (.bipush 7, 2) := by decide +kernel
theorem dX12_setPlatforms_17 : decode cX12_setPlatforms 17 = .ok (.invokestatic 75, 3) := by decide +kernel
theorem dX12_setPlatforms_20 : decode cX12_setPlatforms 20 = .ok (.ifCond .eq 7, 3) := by decide +kernel
theorem dX12_setPlatforms_23 : decode cX12_setPlatforms 23 = .ok (.iconst 0, 1) := by decide +kernel
theorem dX12_setPlatforms_24 : decode cX12_setPlatforms 24 = .ok (.goto 4, 3) := by decide +kernel
theorem dX12_setPlatforms_27 : decode cX12_setPlatforms 27 = .ok (.iconst 2, 1) := by decide +kernel
theorem dX12_setPlatforms_28 : decode cX12_setPlatforms 28 = .ok (.invokevirtual 101, 3) := by decide +kernel
theorem dX12_setPlatforms_31 : decode cX12_setPlatforms 31 = .ok (.ifCond .ne 5, 3) := by decide +kernel
theorem dX12_setPlatforms_34 : decode cX12_setPlatforms 34 = .ok (.iconst 0, 1) := by decide +kernel
theorem dX12_setPlatforms_35 : decode cX12_setPlatforms 35 = .ok (.ireturn, 1) := by decide +kernel
theorem dX12_setPlatforms_36 : decode cX12_setPlatforms 36 = .ok (.aload_n 0, 1) := by decide +kernel
theorem dX12_setPlatforms_37 : decode cX12_setPlatforms 37 = .ok (.getfield 7, 3) := by decide +kernel
theorem dX12_setPlatforms_40 : decode cX12_setPlatforms 40 = .ok (.bipush 9, 2) := by decide +kernel
theorem dX12_setPlatforms_42 : decode cX12_setPlatforms 42 = .ok (.iload_n 1, 1) := by decide +kernel
theorem dX12_setPlatforms_43 : decode cX12_setPlatforms 43 = .ok (.imul, 1) := by decide +kernel
theorem dX12_setPlatforms_44 : decode cX12_setPlatforms 44 = .ok (.bipush 7, 2) := by decide +kernel
theorem dX12_setPlatforms_46 : decode cX12_setPlatforms 46 = .ok (.iadd, 1) := by decide +kernel
theorem dX12_setPlatforms_47 : decode cX12_setPlatforms 47 = .ok (.iaload, 1) := by decide +kernel
theorem dX12_setPlatforms_48 : decode cX12_setPlatforms 48 = .ok (.istore_n 3, 1) := by decide +kernel
theorem dX12_setPlatforms_49 : decode cX12_setPlatforms 49 = .ok (.aload_n 0, 1) := by decide +kernel
theorem dX12_setPlatforms_50 : decode cX12_setPlatforms 50 = .ok (.getfield 7, 3) := by decide +kernel
theorem dX12_setPlatforms_53 : decode cX12_setPlatforms 53 = .ok (.bipush 9, 2) := by decide +kernel
theorem dX12_setPlatforms_55 : decode cX12_setPlatforms 55 = .ok (.iload_n 1, 1) := by decide +kernel
theorem dX12_setPlatforms_56 : decode cX12_setPlatforms 56 = .ok (.imul, 1) := by decide +kernel
theorem dX12_setPlatforms_57 : decode cX12_setPlatforms 57 = .ok (.bipush 7, 2) := by decide +kernel
theorem dX12_setPlatforms_59 : decode cX12_setPlatforms 59 = .ok (.iadd, 1) := by decide +kernel
theorem dX12_setPlatforms_60 : decode cX12_setPlatforms 60 = .ok (.iload_n 2, 1) := by decide +kernel
theorem dX12_setPlatforms_61 : decode cX12_setPlatforms 61 = .ok (.iastore, 1) := by decide +kernel
theorem dX12_setPlatforms_62 : decode cX12_setPlatforms 62 = .ok (.aload_n 0, 1) := by decide +kernel
theorem dX12_setPlatforms_63 : decode cX12_setPlatforms 63 = .ok (.iconst 0, 1) := by decide +kernel
theorem dX12_setPlatforms_64 : decode cX12_setPlatforms 64 = .ok (.putfield 104, 3) := by decide +kernel
theorem dX12_setPlatforms_67 : decode cX12_setPlatforms 67 = .ok (.iload_n 3, 1) := by decide +kernel
theorem dX12_setPlatforms_68 : decode cX12_setPlatforms 68 = .ok (.ireturn, 1) := by decide +kernel
theorem dX12_bring_0 : decode cX12_bring 0 = .ok (.aload_n 0, 1) := by decide +kernel
theorem dX12_bring_1 : decode cX12_bring 1 = .ok (.iload_n 1, 1) := by decide +kernel
theorem dX12_bring_2 : decode cX12_bring 2 = .ok (.invokevirtual 108, 3) := by decide +kernel
theorem dX12_bring_5 : decode cX12_bring 5 = .ok (.ifCond .eq 25, 3) := by decide +kernel
theorem dX12_bring_8 : decode cX12_bring 8 = .ok (.iload_n 2, 1) := by decide +kernel
theorem dX12_bring_9 : decode cX12_bring 9 = .ok (.iconst 0, 1) := by decide +kernel
theorem dX12_bring_10 : decode cX12_bring 10 = .ok (.iconst 2, 1) := by decide +kernel
theorem dX12_bring_11 : decode cX12_bring 11 = .ok (.invokestatic 75, 3) := by decide +kernel
theorem dX12_bring_14 : decode cX12_bring 14 = .ok (.ifCond .eq 16, 3) := by decide +kernel
theorem dX12_bring_17 : decode cX12_bring 17 = .ok (.iload_n 3, 1) := by decide +kernel
theorem dX12_bring_18 : decode cX12_bring 18 = .ok (.iconst 0, 1) := by decide +kernel
theorem dX12_bring_19 : decode cX12_bring 19 = .ok (.iconst 2, 1) := by decide +kernel
theorem dX12_bring_20 : decode cX12_bring 20 = .ok (.invokestatic 75, 3) := by decide +kernel
theorem dX12_bring_23 : decode cX12_bring 23 = .ok (.ifCond .eq 7, 3) := by decide +kernel
theorem dX12_bring_26 : decode cX12_bring 26 = .ok (.iconst 1, 1) := by decide +kernel
theorem dX12_bring_27 : decode cX12_bring 27 = .ok (.goto 4, 3) := by decide +kernel
theorem dX12_bring_30 : decode cX12_bring 30 = .ok (.iconst 0, 1) := by decide +kernel
theorem dX12_bring_31 : decode cX12_bring 31 = .ok (.istore 4, 2) := by decide +kernel
theorem dX12_bring_33 : decode cX12_bring 33 = .ok (.aload_n 0, 1) := by decide +kernel
theorem dX12_bring_34 : decode cX12_bring 34 = .ok (.iload 4, 2) := by decide +kernel
theorem dX12_bring_36 : decode cX12_bring 36 = .ok (.ifCond .eq 7, 3) := by decide +kernel
theorem dX12_bring_39 : decode cX12_bring 39 = .ok (.iconst 0, 1) := by decide +kernel
theorem dX12_bring_40 : decode cX12_bring 40 = .ok (.goto 4, 3) := by decide +kernel
theorem dX12_bring_43 : decode cX12_bring 43 = .ok (.iconst 1, 1) := by decide +kernel
theorem dX12_bring_44 : decode cX12_bring 44 = .ok (.invokevirtual 101, 3) := by decide +kernel
theorem dX12_bring_47 : decode cX12_bring 47 = .ok (.ifCond .ne 5, 3) := by decide +kernel
theorem dX12_bring_50 : decode cX12_bring 50 = .ok (.iconst 0, 1) := by decide +kernel
theorem dX12_bring_51 : decode cX12_bring 51 = .ok (.ireturn, 1) := by decide +kernel
theorem dX12_bring_52 : decode cX12_bring 52 = .ok (.aload_n 0, 1) := by decide +kernel
theorem dX12_bring_53 : decode cX12_bring 53 = .ok (.getfield 13, 3) := by decide +kernel
theorem dX12_bring_56 : decode cX12_bring 56 = .ok (.iconst 3, 1) := by decide +kernel
theorem dX12_bring_57 : decode cX12_bring 57 = .ok (.iload_n 1, 1) := by decide +kernel
theorem dX12_bring_58 : decode cX12_bring 58 = .ok (.imul, 1) := by decide +kernel
theorem dX12_bring_59 : decode cX12_bring 59 = .ok (.iload_n 2, 1) := by decide +kernel
theorem dX12_bring_60 : decode cX12_bring 60 = .ok (.iadd, 1) := by decide +kernel
theorem dX12_bring_61 : decode cX12_bring 61 = .ok (.iaload, 1) := by decide +kernel
theorem dX12_bring_62 : decode cX12_bring 62 = .ok (.iload_n 3, 1) := by decide +kernel
theorem dX12_bring_63 : decode cX12_bring 63 = .ok (.ishr, 1) := by decide +kernel
theorem dX12_bring_64 : decode cX12_bring 64 = .ok (.iconst 1, 1) := by decide +kernel
theorem dX12_bring_65 : decode cX12_bring 65 = .ok (.iand, 1) := by decide +kernel
theorem dX12_bring_66 : decode cX12_bring 66 = .ok (.iconst 1, 1) := by decide +kernel
theorem dX12_bring_67 : decode cX12_bring 67 = .ok (.if_icmp .ne 7, 3) := by decide +kernel
theorem dX12_bring_70 : decode cX12_bring 70 = .ok (.iconst 1, 1) := by decide +kernel
theorem dX12_bring_71 : decode cX12_bring 71 = .ok (.goto 4, 3) := by decide +kernel
theorem dX12_bring_74 : decode cX12_bring 74 = .ok (.iconst 0, 1) := by decide +kernel
theorem dX12_bring_75 : decode cX12_bring 75 = .ok (.istore 5, 2) := by decide +kernel
theorem dX12_bring_77 : decode cX12_bring 77 = .ok (.aload_n 0, 1) := by decide +kernel
theorem dX12_bring_78 : decode cX12_bring 78 = .ok (.getfield 13, 3) := by decide +kernel
theorem dX12_bring_81 : decode cX12_bring 81 = .ok (.iconst 3, 1) := by decide +kernel
theorem dX12_bring_82 : decode cX12_bring 82 = .ok (.iload_n 1, 1) := by decide +kernel
theorem dX12_bring_83 : decode cX12_bring 83 = .ok (.imul, 1) := by decide +kernel
theorem dX12_bring_84 : decode cX12_bring 84 = .ok (.iload_n 2, 1) := by decide +kernel
theorem dX12_bring_85 : decode cX12_bring 85 = .ok (.iadd, 1) := by decide +kernel
theorem dX12_bring_86 : decode cX12_bring 86 = .ok (.dup2, 1) := by decide +kernel
theorem dX12_bring_87 : decode cX12_bring 87 = .ok (.iaload, 1) := by decide +kernel
theorem dX12_bring_88 : decode cX12_bring 88 = .ok (.iconst 1, 1) := by decide +kernel
theorem dX12_bring_89 : decode cX12_bring 89 = .ok (.iload_n 3, 1) := by decide +kernel
theorem dX12_bring_90 : decode cX12_bring 90 = .ok (.ishl, 1) := by decide +kernel
theorem dX12_bring_91 : decode cX12_bring 91 = .ok (.ior, 1) := by decide +kernel
theorem dX12_bring_92 : decode cX12_bring 92 = .ok (.iastore, 1) := by decide +kernel
theorem dX12_bring_93 : decode cX12_bring 93 = .ok (.aload_n 0, 1) := by decide +kernel
theorem dX12_bring_94 : decode cX12_bring 94 = .ok (.iconst 0, 1) := by decide +kernel
theorem dX12_bring_95 : decode cX12_bring 95 = .ok (.putfield 104, 3) := by decide +kernel
theorem dX12_bring_98 : decode cX12_bring 98 = .ok (.iload 5, 2) := by decide +kernel
theorem dX12_bring_100 : decode cX12_bring 100 = .ok (.ifCond .ne 7, 3) := by decide +kernel
theorem dX12_bring_103 : decode cX12_bring 103 = .ok (.iconst 1, 1) := by decide +kernel
theorem dX12_bring_104 : decode cX12_bring 104 = .ok (.goto 4, 3) := by decide +kernel
theorem dX12_bring_107 : decode cX12_bring 107 = .ok (.iconst 0, 1) := by decide +kernel
theorem dX12_bring_108 : decode cX12_bring 108 = .ok (.ireturn, 1) := by decide +kernel
theorem dX12_addRange_0 : decode cX12_addRange 0 = .ok (.iconst 5, 1) := by decide +kernel
theorem dX12_addRange_1 : decode cX12_addRange 1 = .ok (.aload_n 0, 1) := by decide +kernel
theorem dX12_addRange_2 : decode cX12_addRange 2 = .ok (.getfield 82, 3) := by decide +kernel
theorem dX12_addRange_5 : decode cX12_addRange 5 = .ok (.imul, 1) := by decide +kernel
theorem dX12_addRange_6 : decode cX12_addRange 6 = .ok (.istore 6, 2) := by decide +kernel
theorem dX12_addRange_8 : decode cX12_addRange 8 = .ok (.aload_n 0, 1) := by decide +kernel
theorem dX12_addRange_9 : decode cX12_addRange 9 = .ok (.getfield 19, 3) := by decide +kernel
theorem dX12_addRange_12 : decode cX12_addRange 12 = .ok (.iload 6, 2) := by decide +kernel
theorem dX12_addRange_14 : decode cX12_addRange 14 = .ok (.iload_n 1, 1) := by decide +kernel
theorem dX12_addRange_15 : decode cX12_addRange 15 = .ok (.iastore, 1) := by decide +kernel
theorem dX12_addRange_16 : decode cX12_addRange 16 = .ok (.aload_n 0, 1) := by decide +kernel
theorem dX12_addRange_17 : decode cX12_addRange 17 = .ok (.getfield 19, 3) := by decide +kernel
theorem dX12_addRange_20 : decode cX12_addRange 20 = .ok (.iload 6, 2) := by decide +kernel
theorem dX12_addRange_22 : decode cX12_addRange 22 = .ok (.iconst 1, 1) := by decide +kernel
theorem dX12_addRange_23 : decode cX12_addRange 23 = .ok (.iadd, 1) := by decide +kernel
theorem dX12_addRange_24 : decode cX12_addRange 24 = .ok (.iload_n 2, 1) := by decide +kernel
theorem dX12_addRange_25 : decode cX12_addRange 25 = .ok (.iastore, 1) := by decide +kernel
theorem dX12_addRange_26 : decode cX12_addRange 26 = .ok (.aload_n 0, 1) := by decide +kernel
theorem dX12_addRange_27 : decode cX12_addRange 27 = .ok (.getfield 19, 3) := by decide +kernel
theorem dX12_addRange_30 : decode cX12_addRange 30 = .ok (.iload 6, 2) := by decide +kernel
theorem dX12_addRange_32 : decode cX12_addRange 32 = .ok (.iconst 2, 1) := by decide +kernel
theorem dX12_addRange_33 : decode cX12_addRange 33 = .ok (.iadd, 1) := by decide +kernel
theorem dX12_addRange_34 : decode cX12_addRange 34 = .ok (.iload_n 3, 1) := by decide +kernel
theorem dX12_addRange_35 : decode cX12_addRange 35 = .ok (.iastore, 1) := by decide +kernel
theorem dX12_addRange_36 : decode cX12_addRange 36 = .ok (.aload_n 0, 1) := by decide +kernel
theorem dX12_addRange_37 : decode cX12_addRange 37 = .ok (.getfield 19, 3) := by decide +kernel
theorem dX12_addRange_40 : decode cX12_addRange 40 = .ok (.iload 6, 2) := by decide +kernel
theorem dX12_addRange_42 : decode cX12_addRange 42 = .ok (.iconst 3, 1) := by decide +kernel
theorem dX12_addRange_43 : decode cX12_addRange 43 = .ok (.iadd, 1) := by decide +kernel
theorem dX12_addRange_44 : decode cX12_addRange 44 = .ok (.iload 4, 2) := by decide +kernel
theorem dX12_addRange_46 : decode cX12_addRange 46 = .ok (.iastore, 1) := by decide +kernel
theorem dX12_addRange_47 : decode cX12_addRange 47 = .ok (.aload_n 0, 1) := by decide +kernel
theorem dX12_addRange_48 : decode cX12_addRange 48 = .ok (.getfield 19, 3) := by decide +kernel
theorem dX12_addRange_51 : decode cX12_addRange 51 = .ok (.iload 6, 2) := by decide +kernel
theorem dX12_addRange_53 : decode cX12_addRange 53 = .ok (.iconst 4, 1) := by decide +kernel
theorem dX12_addRange_54 : decode cX12_addRange 54 = .ok (.iadd, 1) := by decide +kernel
theorem dX12_addRange_55 : decode cX12_addRange 55 = .ok (.iload 5, 2) := by decide +kernel
theorem dX12_addRange_57 : decode cX12_addRange 57 = .ok (.iastore, 1) := by decide +kernel
theorem dX12_addRange_58 : decode cX12_addRange 58 = .ok (.aload_n 0, 1) := by decide +kernel
theorem dX12_addRange_59 : decode cX12_addRange 59 = .ok (.dup, 1) := by decide +kernel
theorem dX12_addRange_60 : decode cX12_addRange 60 = .ok (.getfield 82, 3) := by decide +kernel
theorem dX12_addRange_63 : decode cX12_addRange 63 = .ok (.iconst 1, 1) := by decide +kernel
theorem dX12_addRange_64 : decode cX12_addRange 64 = .ok (.iadd, 1) := by decide +kernel
theorem dX12_addRange_65 : decode cX12_addRange 65 = .ok (.putfield 82, 3) := by decide +kernel
theorem dX12_addRange_68 : decode cX12_addRange 68 = .ok (.aload_n 0, 1) := by decide +kernel
theorem dX12_addRange_69 : decode cX12_addRange 69 = .ok (.aload_n 0, 1) := by decide +kernel
theorem dX12_addRange_70 : decode cX12_addRange 70 = .ok (.getfield 82, 3) := by decide +kernel
theorem dX12_addRange_73 : decode cX12_addRange 73 = .ok (.iconst 1, 1) := by decide +kernel
theorem dX12_addRange_74 : decode cX12_addRange 74 = .ok (.isub, 1) := by decide +kernel
theorem dX12_addRange_75 : decode cX12_addRange 75 = .ok (.invokevirtual 115, 3) := by decide +kernel
theorem dX12_addRange_78 : decode cX12_addRange 78 = .ok (.aload_n 0, 1) := by decide +kernel
theorem dX12_addRange_79 : decode cX12_addRange 79 = .ok (.getfield 82, 3) := by decide +kernel
theorem dX12_addRange_82 : decode cX12_addRange 82 = .ok (.iconst 1, 1) := by decide +kernel
theorem dX12_addRange_83 : decode cX12_addRange 83 = .ok (.isub, 1) := by decide +kernel
theorem dX12_addRange_84 : decode cX12_addRange 84 = .ok (.ireturn, 1) := by decide +kernel
theorem dX12_range_0 : decode cX12_range 0 = .ok (.iload_n 1, 1) := by decide +kernel
theorem dX12_range_1 : decode cX12_range 1 = .ok (.iconst 3, 1) := by decide +kernel
theorem dX12_range_2 : decode cX12_range 2 = .ok (.if_icmp .eq 7, 3) := by decide +kernel
theorem dX12_range_5 : decode cX12_range 5 = .ok (.iconst 1, 1) := by decide +kernel
theorem dX12_range_6 : decode cX12_range 6 = .ok (.goto 4, 3) := by decide +kernel
theorem dX12_range_9 : decode cX12_range 9 = .ok (.iconst 0, 1) := by decide +kernel
theorem dX12_range_10 : decode cX12_range 10 = .ok (.istore 6, 2) := by decide +kernel
theorem dX12_range_12 : decode cX12_range 12 = .ok (.iload 6, 2) := by decide +kernel
theorem dX12_range_14 : decode cX12_range 14 = .ok (.ifCond .eq 13, 3) := by decide +kernel
theorem dX12_range_17 : decode cX12_range 17 = .ok (.iload_n 1, 1) := by decide +kernel
theorem dX12_range_18 : decode cX12_range 18 = .ok (.bipush 6, 2) := by decide +kernel
theorem dX12_range_20 : decode cX12_range 20 = .ok (.if_icmp .eq 7, 3) := by decide +kernel
theorem dX12_range_23 : decode cX12_range 23 = .ok (.iconst 1, 1) := by decide +kernel
theorem dX12_range_24 : decode cX12_range 24 = .ok (.goto 4, 3) := by decide +kernel
theorem dX12_range_27 : decode cX12_range 27 = .ok (.iconst 0, 1) := by decide +kernel
theorem dX12_range_28 : decode cX12_range 28 = .ok (.istore 7, 2) := by decide +kernel
theorem dX12_range_30 : decode cX12_range 30 = .ok (.iload 7, 2) := by decide +kernel
theorem dX12_range_32 : decode cX12_range 32 = .ok (.ifCond .eq 13, 3) := by decide +kernel
theorem dX12_range_35 : decode cX12_range 35 = .ok (.iload_n 1, 1) := by decide +kernel
theorem dX12_range_36 : decode cX12_range 36 = .ok (.bipush 7, 2) := by decide +kernel
theorem dX12_range_38 : decode cX12_range 38 = .ok (.if_icmp .eq 7, 3) := by decide +kernel
theorem dX12_range_41 : decode cX12_range 41 = .ok (.iconst 1, 1) := by decide +kernel
theorem dX12_range_42 : decode cX12_range 42 = .ok (.goto 4, 3) := by decide +kernel
theorem dX12_range_45 : decode cX12_range 45 = .ok (.iconst 0, 1) := by decide +kernel
theorem dX12_range_46 : decode cX12_range 46 = .ok (.istore 8, 2) := by decide +kernel
theorem dX12_range_48 : decode cX12_range 48 = .ok (.iload_n 2, 1) := by decide +kernel
theorem dX12_range_49 : decode cX12_range 49 = .ok (.iconst 0, 1) := by decide +kernel
theorem dX12_range_50 : decode cX12_range 50 = .ok (.iload 6, 2) := by decide +kernel
theorem dX12_range_52 : decode cX12_range 52 = .ok (.ifCond .eq 8, 3) := by decide +kernel
theorem dX12_range_55 : decode cX12_range 55 = .ok (.bipush 9, 2) := by decide +kernel
theorem dX12_range_57 : decode cX12_range 57 = .ok (.goto 4, 3) := by decide +kernel
theorem dX12_range_60 : decode cX12_range 60 = .ok (.iconst 0, 1) := by decide +kernel
theorem dX12_range_61 : decode cX12_range 61 = .ok (.invokestatic 75, 3) := by decide +kernel
theorem dX12_range_64 : decode cX12_range 64 = .ok (.ifCond .eq 66, 3) := by decide +kernel
theorem dX12_range_67 : decode cX12_range 67 = .ok (.iload_n 3, 1) := by decide +kernel
theorem dX12_range_68 : decode cX12_range 68 = .ok (.iconst 0, 1) := by decide +kernel
theorem dX12_range_69 : decode cX12_range 69 = .ok (.iload 7, 2) := by decide +kernel
theorem dX12_range_71 : decode cX12_range 71 = .ok (.ifCond .eq 8, 3) := by decide +kernel
theorem dX12_range_74 : decode cX12_range 74 = .ok (.bipush 9, 2) := by decide +kernel
theorem dX12_range_76 : decode cX12_range 76 = .ok (.goto 4, 3) := by decide +kernel
theorem dX12_range_79 : decode cX12_range 79 = .ok (.iconst 0, 1) := by decide +kernel
theorem dX12_range_80 : decode cX12_range 80 = .ok (.invokestatic 75, 3) := by decide +kernel
theorem dX12_range_83 : decode cX12_range 83 = .ok (.ifCond .eq 47, 3) := by decide +kernel
theorem dX12_range_86 : decode cX12_range 86 = .ok (.iload 4, 2) := by decide +kernel
theorem dX12_range_88 : decode cX12_range 88 = .ok (.iconst 0, 1) := by decide +kernel
theorem dX12_range_89 : decode cX12_range 89 = .ok (.iload 8, 2) := by decide +kernel
theorem dX12_range_91 : decode cX12_range 91 = .ok (.ifCond .eq 8, 3) := by decide +kernel
theorem dX12_range_94 : decode cX12_range 94 = .ok (.bipush 9, 2) := by decide +kernel
theorem dX12_range_96 : decode cX12_range 96 = .ok (.goto 4, 3) := by decide +kernel
theorem dX12_range_99 : decode cX12_range 99 = .ok (.iconst 0, 1) := by decide +kernel
theorem dX12_range_100 : decode cX12_range 100 = .ok (.invokestatic 75, 3) := by decide +kernel
theorem dX12_range_103 : decode cX12_range 103 = .ok (.ifCond .eq 27, 3) := by decide +kernel
theorem dX12_range_106 : decode cX12_range 106 = .ok (.iload 5, 2) := by decide +kernel
theorem dX12_range_108 : decode cX12_range 108 = .ok (.iconst 0, 1) := by decide +kernel
theorem dX12_range_109 : decode cX12_range 109 = .ok (.iload 8, 2) := by decide +kernel
theorem dX12_range_111 : decode cX12_range 111 = .ok (.ifCond .eq 8, 3) := by decide +kernel
theorem dX12_range_114 : decode cX12_range 114 = .ok (.bipush 9, 2) := by decide +kernel
theorem dX12_range_116 : decode cX12_range 116 = .ok (.goto 4, 3) := by decide +kernel
theorem dX12_range_119 : decode cX12_range 119 = .ok (.iconst 0, 1) := by decide +kernel
theorem dX12_range_120 : decode cX12_range 120 = .ok (.invokestatic 75, 3) := by decide +kernel
theorem dX12_range_123 : decode cX12_range 123 = .ok (.ifCond .eq 7, 3) := by decide +kernel
theorem dX12_range_126 : decode cX12_range 126 = .ok (.iconst 1, 1) := by decide +kernel
theorem dX12_range_127 : decode cX12_range 127 = .ok (.goto 4, 3) := by decide +kernel
theorem dX12_range_130 : decode cX12_range 130 = .ok (.iconst 0, 1) := by decide +kernel
theorem dX12_range_131 : decode cX12_range 131 = .ok (.istore 9, 2) := by decide +kernel
theorem dX12_range_133 : decode cX12_range 133 = .ok (.aload_n 0, 1) := by decide +kernel
theorem dX12_range_134 : decode cX12_range 134 = .ok (.iload_n 1, 1) := by decide +kernel
theorem dX12_range_135 : decode cX12_range 135 = .ok (.iconst 0, 1) := by decide +kernel
theorem dX12_range_136 : decode cX12_range 136 = .ok (.bipush 7, 2) := by decide +kernel
theorem dX12_range_138 : decode cX12_range 138 = .ok (.invokestatic 75, 3) := by decide +kernel
theorem dX12_range_141 : decode cX12_range 141 = .ok (.ifCond .ne 7, 3) := by decide +kernel
theorem dX12_range_144 : decode cX12_range 144 = .ok (.iconst 1, 1) := by decide +kernel
theorem dX12_range_145 : decode cX12_range 145 = .ok (.goto 26, 3) := by decide +kernel
theorem dX12_range_148 : decode cX12_range 148 = .ok (.iload 9, 2) := by decide +kernel
theorem dX12_range_150 : decode cX12_range 150 = .ok (.ifCond .ne 7, 3) := by decide +kernel
theorem dX12_range_153 : decode cX12_range 153 = .ok (.iconst 2, 1) := by decide +kernel
theorem dX12_range_154 : decode cX12_range 154 = .ok (.goto 17, 3) := by decide +kernel
theorem dX12_range_157 : decode cX12_range 157 = .ok (.aload_n 0, 1) := by decide +kernel
theorem dX12_range_158 : decode cX12_range 158 = .ok (.getfield 82, 3) := by decide +kernel
theorem dX12_range_161 : decode cX12_range 161 = .ok (.bipush 30, 2) := by decide +kernel
theorem dX12_range_163 : decode cX12_range 163 = .ok (.if_icmp .ne 7, 3) := by decide +kernel
theorem dX12_range_166 : decode cX12_range 166 = .ok (.iconst 3, 1) := by decide +kernel
theorem dX12_range_167 : decode cX12_range 167 = .ok (.goto 4, 3) := by decide +kernel
theorem dX12_range_170 : decode cX12_range 170 = .ok (.iconst 0, 1) := by decide +kernel
theorem dX12_range_171 : decode cX12_range 171 = .ok (.invokevirtual 101, 3) := by decide +kernel
theorem dX12_range_174 : decode cX12_range 174 = .ok (.ifCond .eq 17, 3) := by decide +kernel
theorem dX12_range_177 : decode cX12_range 177 = .ok (.aload_n 0, 1) := by decide +kernel
theorem dX12_range_178 : decode cX12_range 178 = .ok (.iload_n 1, 1) := by decide +kernel
theorem dX12_range_179 : decode cX12_range 179 = .ok (.iload_n 2, 1) := by decide +kernel
theorem dX12_range_180 : decode cX12_range 180 = .ok (.iload_n 3, 1) := by decide +kernel
theorem dX12_range_181 : decode cX12_range 181 = .ok (.iload 4, 2) := by decide +kernel
theorem dX12_range_183 : decode cX12_range 183 = .ok (.iload 5, 2) := by decide +kernel
theorem dX12_range_185 : decode cX12_range 185 = .ok (.invokevirtual 119, 3) := by decide +kernel
theorem dX12_range_188 : decode cX12_range 188 = .ok (.goto 4, 3) := by decide +kernel
theorem dX12_range_191 : decode cX12_range 191 = .ok (.iconst 0, 1) := by decide +kernel
theorem dX12_range_192 : decode cX12_range 192 = .ok (.ireturn, 1) := by decide +kernel
theorem dX12_join_0 : decode cX12_join 0 = .ok (.iload_n 1, 1) := by decide +kernel
theorem dX12_join_1 : decode cX12_join 1 = .ok (.bipush 8, 2) := by decide +kernel
theorem dX12_join_3 : decode cX12_join 3 = .ok (.bipush 9, 2) := by decide +kernel
theorem dX12_join_5 : decode cX12_join 5 = .ok (.invokestatic 75, 3) := by decide +kernel
theorem dX12_join_8 : decode cX12_join 8 = .ok (.ifCond .eq 23, 3) := by decide +kernel
theorem dX12_join_11 : decode cX12_join 11 = .ok (.aload_n 0, 1) := by decide +kernel
theorem dX12_join_12 : decode cX12_join 12 = .ok (.iload_n 2, 1) := by decide +kernel
theorem dX12_join_13 : decode cX12_join 13 = .ok (.invokevirtual 122, 3) := by decide +kernel
theorem dX12_join_16 : decode cX12_join 16 = .ok (.ifCond .eq 15, 3) := by decide +kernel
theorem dX12_join_19 : decode cX12_join 19 = .ok (.aload_n 0, 1) := by decide +kernel
theorem dX12_join_20 : decode cX12_join 20 = .ok (.iload_n 3, 1) := by decide +kernel
theorem dX12_join_21 : decode cX12_join 21 = .ok (.invokevirtual 122, 3) := by decide +kernel
theorem dX12_join_24 : decode cX12_join 24 = .ok (.ifCond .eq 7, 3) := by decide +kernel
theorem dX12_join_27 : decode cX12_join 27 = .ok (.iconst 1, 1) := by decide +kernel
theorem dX12_join_28 : decode cX12_join 28 = .ok (.goto 4, 3) := by decide +kernel
theorem dX12_join_31 : decode cX12_join 31 = .ok (.iconst 0, 1) := by decide +kernel
theorem dX12_join_32 : decode cX12_join 32 = .ok (.istore 4, 2) := by decide +kernel
theorem dX12_join_34 : decode cX12_join 34 = .ok (.aload_n 0, 1) := by decide +kernel
theorem dX12_join_35 : decode cX12_join 35 = .ok (.iload 4, 2) := by decide +kernel
theorem dX12_join_37 : decode cX12_join 37 = .ok (.ifCond .ne 7, 3) := by decide +kernel
theorem dX12_join_40 : decode cX12_join 40 = .ok (.iconst 1, 1) := by decide +kernel
theorem dX12_join_41 : decode cX12_join 41 = .ok (.goto 17, 3) := by decide +kernel
theorem dX12_join_44 : decode cX12_join 44 = .ok (.aload_n 0, 1) := by decide +kernel
theorem dX12_join_45 : decode cX12_join 45 = .ok (.getfield 82, 3) := by decide +kernel
theorem dX12_join_48 : decode cX12_join 48 = .ok (.bipush 30, 2) := by decide +kernel
theorem dX12_join_50 : decode cX12_join 50 = .ok (.if_icmp .ne 7, 3) := by decide +kernel
theorem dX12_join_53 : decode cX12_join 53 = .ok (.iconst 2, 1) := by decide +kernel
theorem dX12_join_54 : decode cX12_join 54 = .ok (.goto 4, 3) := by decide +kernel
theorem dX12_join_57 : decode cX12_join 57 = .ok (.iconst 0, 1) := by decide +kernel
theorem dX12_join_58 : decode cX12_join 58 = .ok (.invokevirtual 101, 3) := by decide +kernel
theorem dX12_join_61 : decode cX12_join 61 = .ok (.ifCond .eq 15, 3) := by decide +kernel
theorem dX12_join_64 : decode cX12_join 64 = .ok (.aload_n 0, 1) := by decide +kernel
theorem dX12_join_65 : decode cX12_join 65 = .ok (.iload_n 1, 1) := by decide +kernel
theorem dX12_join_66 : decode cX12_join 66 = .ok (.iload_n 2, 1) := by decide +kernel
theorem dX12_join_67 : decode cX12_join 67 = .ok (.iload_n 3, 1) := by decide +kernel
theorem dX12_join_68 : decode cX12_join 68 = .ok (.iconst 0, 1) := by decide +kernel
theorem dX12_join_69 : decode cX12_join 69 = .ok (.iconst 0, 1) := by decide +kernel
theorem dX12_join_70 : decode cX12_join 70 = .ok (.invokevirtual 119, 3) := by decide +kernel
theorem dX12_join_73 : decode cX12_join 73 = .ok (.goto 4, 3) := by decide +kernel
theorem dX12_join_76 : decode cX12_join 76 = .ok (.iconst 0, 1) := by decide +kernel
theorem dX12_join_77 : decode cX12_join 77 = .ok (.ireturn, 1) := by decide +kernel
theorem dX12_has_0 : decode cX12_has 0 = .ok (.aload_n 0, 1) := by decide +kernel
theorem dX12_has_1 : decode cX12_has 1 = .ok (.aload_n 0, 1) := by decide +kernel
theorem dX12_has_2 : decode cX12_has 2 = .ok (.iload_n 1, 1) := by decide +kernel
theorem dX12_has_3 : decode cX12_has 3 = .ok (.invokevirtual 122, 3) := by decide +kernel
theorem dX12_has_6 : decode cX12_has 6 = .ok (.ifCond .eq 15, 3) := by decide +kernel
theorem dX12_has_9 : decode cX12_has 9 = .ok (.aload_n 0, 1) := by decide +kernel
theorem dX12_has_10 : decode cX12_has 10 = .ok (.iload_n 2, 1) := by decide +kernel
theorem dX12_has_11 : decode cX12_has 11 = .ok (.invokevirtual 108, 3) := by decide +kernel
theorem dX12_has_14 : decode cX12_has 14 = .ok (.ifCond .eq 7, 3) := by decide +kernel
theorem dX12_has_17 : decode cX12_has 17 = .ok (.iconst 0, 1) := by decide +kernel
theorem dX12_has_18 : decode cX12_has 18 = .ok (.goto 4, 3) := by decide +kernel
theorem dX12_has_21 : decode cX12_has 21 = .ok (.iconst 1, 1) := by decide +kernel
theorem dX12_has_22 : decode cX12_has 22 = .ok (.invokevirtual 101, 3) := by decide +kernel
theorem dX12_has_25 : decode cX12_has 25 = .ok (.ifCond .eq 21, 3) := by decide +kernel
theorem dX12_has_28 : decode cX12_has 28 = .ok (.aload_n 0, 1) := by decide +kernel
theorem dX12_has_29 : decode cX12_has 29 = .ok (.getfield 22, 3) := by decide +kernel
theorem dX12_has_32 : decode cX12_has 32 = .ok (.bipush 24, 2) := by decide +kernel
theorem dX12_has_34 : decode cX12_has 34 = .ok (.iload_n 1, 1) := by decide +kernel
theorem dX12_has_35 : decode cX12_has 35 = .ok (.imul, 1) := by decide +kernel
theorem dX12_has_36 : decode cX12_has 36 = .ok (.iload_n 2, 1) := by decide +kernel
theorem dX12_has_37 : decode cX12_has 37 = .ok (.iadd, 1) := by decide +kernel
theorem dX12_has_38 : decode cX12_has 38 = .ok (.baload, 1) := by decide +kernel
theorem dX12_has_39 : decode cX12_has 39 = .ok (.ifCond .eq 7, 3) := by decide +kernel
theorem dX12_has_42 : decode cX12_has 42 = .ok (.iconst 1, 1) := by decide +kernel
theorem dX12_has_43 : decode cX12_has 43 = .ok (.goto 4, 3) := by decide +kernel
theorem dX12_has_46 : decode cX12_has 46 = .ok (.iconst 0, 1) := by decide +kernel
theorem dX12_has_47 : decode cX12_has 47 = .ok (.ireturn, 1) := by decide +kernel
theorem dX12_need_0 : decode cX12_need 0 = .ok (.aload_n 0, 1) := by decide +kernel
theorem dX12_need_1 : decode cX12_need 1 = .ok (.iload_n 1, 1) := by decide +kernel
theorem dX12_need_2 : decode cX12_need 2 = .ok (.invokevirtual 108, 3) := by decide +kernel
theorem dX12_need_5 : decode cX12_need 5 = .ok (.ifCond .eq 42, 3) := by decide +kernel
theorem dX12_need_8 : decode cX12_need 8 = .ok (.iload_n 2, 1) := by decide +kernel
theorem dX12_need_9 : decode cX12_need 9 = .ok (.invokestatic 93, 3) := by decide +kernel
theorem dX12_need_12 : decode cX12_need 12 = .ok (.ifCond .eq 35, 3) := by decide +kernel
theorem dX12_need_15 : decode cX12_need 15 = .ok (.aload_n 0, 1) := by decide +kernel
theorem dX12_need_16 : decode cX12_need 16 = .ok (.iload_n 3, 1) := by decide +kernel
theorem dX12_need_17 : decode cX12_need 17 = .ok (.invokevirtual 122, 3) := by decide +kernel
theorem dX12_need_20 : decode cX12_need 20 = .ok (.ifCond .eq 27, 3) := by decide +kernel
theorem dX12_need_23 : decode cX12_need 23 = .ok (.iload 4, 2) := by decide +kernel
theorem dX12_need_25 : decode cX12_need 25 = .ok (.iconst 0, 1) := by decide +kernel
theorem dX12_need_26 : decode cX12_need 26 = .ok (.iconst 2, 1) := by decide +kernel
theorem dX12_need_27 : decode cX12_need 27 = .ok (.invokestatic 75, 3) := by decide +kernel
theorem dX12_need_30 : decode cX12_need 30 = .ok (.ifCond .eq 17, 3) := by decide +kernel
theorem dX12_need_33 : decode cX12_need 33 = .ok (.iload 5, 2) := by decide +kernel
theorem dX12_need_35 : decode cX12_need 35 = .ok (.iconst (-1), 1) := by decide +kernel
theorem dX12_need_36 : decode cX12_need 36 = .ok (.iconst 2, 1) := by decide +kernel
theorem dX12_need_37 : decode cX12_need 37 = .ok (.invokestatic 75, 3) := by decide +kernel
theorem dX12_need_40 : decode cX12_need 40 = .ok (.ifCond .eq 7, 3) := by decide +kernel
theorem dX12_need_43 : decode cX12_need 43 = .ok (.iconst 1, 1) := by decide +kernel
theorem dX12_need_44 : decode cX12_need 44 = .ok (.goto 4, 3) := by decide +kernel
theorem dX12_need_47 : decode cX12_need 47 = .ok (.iconst 0, 1) := by decide +kernel
theorem dX12_need_48 : decode cX12_need 48 = .ok (.istore 8, 2) := by decide +kernel
theorem dX12_need_50 : decode cX12_need 50 = .ok (.iload 6, 2) := by decide +kernel
theorem dX12_need_52 : decode cX12_need 52 = .ok (.iconst 0, 1) := by decide +kernel
theorem dX12_need_53 : decode cX12_need 53 = .ok (.bipush 7, 2) := by decide +kernel
theorem dX12_need_55 : decode cX12_need 55 = .ok (.invokestatic 75, 3) := by decide +kernel
theorem dX12_need_58 : decode cX12_need 58 = .ok (.ifCond .eq 18, 3) := by decide +kernel
theorem dX12_need_61 : decode cX12_need 61 = .ok (.iload 7, 2) := by decide +kernel
theorem dX12_need_63 : decode cX12_need 63 = .ok (.iconst 0, 1) := by decide +kernel
theorem dX12_need_64 : decode cX12_need 64 = .ok (.bipush 7, 2) := by decide +kernel
theorem dX12_need_66 : decode cX12_need 66 = .ok (.invokestatic 75, 3) := by decide +kernel
theorem dX12_need_69 : decode cX12_need 69 = .ok (.ifCond .eq 7, 3) := by decide +kernel
theorem dX12_need_72 : decode cX12_need 72 = .ok (.iconst 1, 1) := by decide +kernel
theorem dX12_need_73 : decode cX12_need 73 = .ok (.goto 4, 3) := by decide +kernel
theorem dX12_need_76 : decode cX12_need 76 = .ok (.iconst 0, 1) := by decide +kernel
theorem dX12_need_77 : decode cX12_need 77 = .ok (.istore 9, 2) := by decide +kernel
theorem dX12_need_79 : decode cX12_need 79 = .ok (.iload 8, 2) := by decide +kernel
theorem dX12_need_81 : decode cX12_need 81 = .ok (.ifCond .eq 18, 3) := by decide +kernel
theorem dX12_need_84 : decode cX12_need 84 = .ok (.aload_n 0, 1) := by decide +kernel
theorem dX12_need_85 : decode cX12_need 85 = .ok (.getfield 7, 3) := by decide +kernel
theorem dX12_need_88 : decode cX12_need 88 = .ok (.bipush 9, 2) := by decide +kernel
theorem dX12_need_90 : decode cX12_need 90 = .ok (.iload_n 1, 1) := by decide +kernel
theorem dX12_need_91 : decode cX12_need 91 = .ok (.imul, 1) := by decide +kernel
theorem dX12_need_92 : decode cX12_need 92 = .ok (.bipush 8, 2) := by decide +kernel
theorem dX12_need_94 : decode cX12_need 94 = .ok (.iadd, 1) := by decide +kernel
theorem dX12_need_95 : decode cX12_need 95 = .ok (.iaload, 1) := by decide +kernel
theorem dX12_need_96 : decode cX12_need 96 = .ok (.goto 4, 3) := by decide +kernel
theorem dX12_need_99 : decode cX12_need 99 = .ok (.iconst 0, 1) := by decide +kernel
theorem dX12_need_100 : decode cX12_need 100 = .ok (.istore 10, 2) := by decide +kernel
theorem dX12_need_102 : decode cX12_need 102 = .ok (.aload_n 0, 1) := by decide +kernel
theorem dX12_need_103 : decode cX12_need 103 = .ok (.iload 8, 2) := by decide +kernel
theorem dX12_need_105 : decode cX12_need 105 = .ok (.ifCond .ne 7, 3) := by decide +kernel
theorem dX12_need_108 : decode cX12_need 108 = .ok (.iconst 1, 1) := by decide +kernel
theorem dX12_need_109 : decode cX12_need 109 = .ok (.goto 23, 3) := by decide +kernel
theorem dX12_need_112 : decode cX12_need 112 = .ok (.iload 9, 2) := by decide +kernel
theorem dX12_need_114 : decode cX12_need 114 = .ok (.ifCond .ne 7, 3) := by decide +kernel
theorem dX12_need_117 : decode cX12_need 117 = .ok (.iconst 2, 1) := by decide +kernel
theorem dX12_need_118 : decode cX12_need 118 = .ok (.goto 14, 3) := by decide +kernel
theorem dX12_need_121 : decode cX12_need 121 = .ok (.iload 10, 2) := by decide +kernel
theorem dX12_need_123 : decode cX12_need 123 = .ok (.iconst 5, 1) := by decide +kernel
theorem dX12_need_124 : decode cX12_need 124 = .ok (.if_icmp .ne 7, 3) := by decide +kernel
theorem dX12_need_127 : decode cX12_need 127 = .ok (.iconst 3, 1) := by decide +kernel
theorem dX12_need_128 : decode cX12_need 128 = .ok (.goto 4, 3) := by decide +kernel
theorem dX12_need_131 : decode cX12_need 131 = .ok (.iconst 0, 1) := by decide +kernel
theorem dX12_need_132 : decode cX12_need 132 = .ok (.invokevirtual 101, 3) := by decide +kernel
theorem dX12_need_135 : decode cX12_need 135 = .ok (.ifCond .ne 5, 3) := by decide +kernel
theorem dX12_need_138 : decode cX12_need 138 = .ok (.iconst 0, 1) := by decide +kernel
theorem dX12_need_139 : decode cX12_need 139 = .ok (.ireturn, 1) := by decide +kernel
theorem dX12_need_140 : decode cX12_need 140 = .ok (.bipush 6, 2) := by decide +kernel
theorem dX12_need_142 : decode cX12_need 142 = .ok (.iconst 5, 1) := by decide +kernel
theorem dX12_need_143 : decode cX12_need 143 = .ok (.iload_n 1, 1) := by decide +kernel
theorem dX12_need_144 : decode cX12_need 144 = .ok (.imul, 1) := by decide +kernel
theorem dX12_need_145 : decode cX12_need 145 = .ok (.iload 10, 2) := by decide +kernel
theorem dX12_need_147 : decode cX12_need 147 = .ok (.iadd, 1) := by decide +kernel
theorem dX12_need_148 : decode cX12_need 148 = .ok (.imul, 1) := by decide +kernel
theorem dX12_need_149 : decode cX12_need 149 = .ok (.istore 11, 2) := by decide +kernel
theorem dX12_need_151 : decode cX12_need 151 = .ok (.aload_n 0, 1) := by decide +kernel
theorem dX12_need_152 : decode cX12_need 152 = .ok (.getfield 16, 3) := by decide +kernel
theorem dX12_need_155 : decode cX12_need 155 = .ok (.iload 11, 2) := by decide +kernel
theorem dX12_need_157 : decode cX12_need 157 = .ok (.iload_n 2, 1) := by decide +kernel
theorem dX12_need_158 : decode cX12_need 158 = .ok (.iastore, 1) := by decide +kernel
theorem dX12_need_159 : decode cX12_need 159 = .ok (.aload_n 0, 1) := by decide +kernel
theorem dX12_need_160 : decode cX12_need 160 = .ok (.getfield 16, 3) := by decide +kernel
theorem dX12_need_163 : decode cX12_need 163 = .ok (.iload 11, 2) := by decide +kernel
theorem dX12_need_165 : decode cX12_need 165 = .ok (.iconst 1, 1) := by decide +kernel
theorem dX12_need_166 : decode cX12_need 166 = .ok (.iadd, 1) := by decide +kernel
theorem dX12_need_167 : decode cX12_need 167 = .ok (.iload_n 3, 1) := by decide +kernel
theorem dX12_need_168 : decode cX12_need 168 = .ok (.iastore, 1) := by decide +kernel
theorem dX12_need_169 : decode cX12_need 169 = .ok (.aload_n 0, 1) := by decide +kernel
theorem dX12_need_170 : decode cX12_need 170 = .ok (.getfield 16, 3) := by decide +kernel
theorem dX12_need_173 : decode cX12_need 173 = .ok (.iload 11, 2) := by decide +kernel
theorem dX12_need_175 : decode cX12_need 175 = .ok (.iconst 2, 1) := by decide +kernel
theorem dX12_need_176 : decode cX12_need 176 = .ok (.iadd, 1) := by decide +kernel
theorem dX12_need_177 : decode cX12_need 177 = .ok (.iload 4, 2) := by decide +kernel
theorem dX12_need_179 : decode cX12_need 179 = .ok (.iastore, 1) := by decide +kernel
theorem dX12_need_180 : decode cX12_need 180 = .ok (.aload_n 0, 1) := by decide +kernel
theorem dX12_need_181 : decode cX12_need 181 = .ok (.getfield 16, 3) := by decide +kernel
theorem dX12_need_184 : decode cX12_need 184 = .ok (.iload 11, 2) := by decide +kernel
theorem dX12_need_186 : decode cX12_need 186 = .ok (.iconst 3, 1) := by decide +kernel
theorem dX12_need_187 : decode cX12_need 187 = .ok (.iadd, 1) := by decide +kernel
theorem dX12_need_188 : decode cX12_need 188 = .ok (.iload 5, 2) := by decide +kernel
theorem dX12_need_190 : decode cX12_need 190 = .ok (.iastore, 1) := by decide +kernel
theorem dX12_need_191 : decode cX12_need 191 = .ok (.aload_n 0, 1) := by decide +kernel
theorem dX12_need_192 : decode cX12_need 192 = .ok (.getfield 16, 3) := by decide +kernel
theorem dX12_need_195 : decode cX12_need 195 = .ok (.iload 11, 2) := by decide +kernel
theorem dX12_need_197 : decode cX12_need 197 = .ok (.iconst 4, 1) := by decide +kernel
theorem dX12_need_198 : decode cX12_need 198 = .ok (.iadd, 1) := by decide +kernel
theorem dX12_need_199 : decode cX12_need 199 = .ok (.iload 6, 2) := by decide +kernel
theorem dX12_need_201 : decode cX12_need 201 = .ok (.iastore, 1) := by decide +kernel
theorem dX12_need_202 : decode cX12_need 202 = .ok (.aload_n 0, 1) := by decide +kernel
theorem dX12_need_203 : decode cX12_need 203 = .ok (.getfield 16, 3) := by decide +kernel
theorem dX12_need_206 : decode cX12_need 206 = .ok (.iload 11, 2) := by decide +kernel
theorem dX12_need_208 : decode cX12_need 208 = .ok (.iconst 5, 1) := by decide +kernel
theorem dX12_need_209 : decode cX12_need 209 = .ok (.iadd, 1) := by decide +kernel
theorem dX12_need_210 : decode cX12_need 210 = .ok (.iload 7, 2) := by decide +kernel
theorem dX12_need_212 : decode cX12_need 212 = .ok (.iastore, 1) := by decide +kernel
theorem dX12_need_213 : decode cX12_need 213 = .ok (.aload_n 0, 1) := by decide +kernel
theorem dX12_need_214 : decode cX12_need 214 = .ok (.getfield 7, 3) := by decide +kernel
theorem dX12_need_217 : decode cX12_need 217 = .ok (.bipush 9, 2) := by decide +kernel
theorem dX12_need_219 : decode cX12_need 219 = .ok (.iload_n 1, 1) := by decide +kernel
theorem dX12_need_220 : decode cX12_need 220 = .ok (.imul, 1) := by decide +kernel
theorem dX12_need_221 : decode cX12_need 221 = .ok (.bipush 8, 2) := by decide +kernel
theorem dX12_need_223 : decode cX12_need 223 = .ok (.iadd, 1) := by decide +kernel
theorem dX12_need_224 : decode cX12_need 224 = .ok (.dup2, 1) := by decide +kernel
theorem dX12_need_225 : decode cX12_need 225 = .ok (.iaload, 1) := by decide +kernel
theorem dX12_need_226 : decode cX12_need 226 = .ok (.iconst 1, 1) := by decide +kernel
theorem dX12_need_227 : decode cX12_need 227 = .ok (.iadd, 1) := by decide +kernel
theorem dX12_need_228 : decode cX12_need 228 = .ok (.iastore, 1) := by decide +kernel
theorem dX12_need_229 : decode cX12_need 229 = .ok (.aload_n 0, 1) := by decide +kernel
theorem dX12_need_230 : decode cX12_need 230 = .ok (.iconst 0, 1) := by decide +kernel
theorem dX12_need_231 : decode cX12_need 231 = .ok (.putfield 104, 3) := by decide +kernel
theorem dX12_need_234 : decode cX12_need 234 = .ok (.iload 10, 2) := by decide +kernel
theorem dX12_need_236 : decode cX12_need 236 = .ok (.iconst 1, 1) := by decide +kernel
theorem dX12_need_237 : decode cX12_need 237 = .ok (.iadd, 1) := by decide +kernel
theorem dX12_need_238 : decode cX12_need 238 = .ok (.ireturn, 1) := by decide +kernel
theorem dX12_demand_0 : decode cX12_demand 0 = .ok (.iload_n 1, 1) := by decide +kernel
theorem dX12_demand_1 : decode cX12_demand 1 = .ok (.iconst 0, 1) := by decide +kernel
theorem dX12_demand_2 : decode cX12_demand 2 = .ok (.iconst 2, 1) := by decide +kernel
theorem dX12_demand_3 : decode cX12_demand 3 = .ok (.invokestatic 75, 3) := by decide +kernel
theorem dX12_demand_6 : decode cX12_demand 6 = .ok (.ifCond .eq 22, 3) := by decide +kernel
theorem dX12_demand_9 : decode cX12_demand 9 = .ok (.iload_n 2, 1) := by decide +kernel
theorem dX12_demand_10 : decode cX12_demand 10 = .ok (.invokestatic 93, 3) := by decide +kernel
theorem dX12_demand_13 : decode cX12_demand 13 = .ok (.ifCond .eq 15, 3) := by decide +kernel
theorem dX12_demand_16 : decode cX12_demand 16 = .ok (.aload_n 0, 1) := by decide +kernel
theorem dX12_demand_17 : decode cX12_demand 17 = .ok (.iload_n 3, 1) := by decide +kernel
theorem dX12_demand_18 : decode cX12_demand 18 = .ok (.invokevirtual 122, 3) := by decide +kernel
theorem dX12_demand_21 : decode cX12_demand 21 = .ok (.ifCond .eq 7, 3) := by decide +kernel
theorem dX12_demand_24 : decode cX12_demand 24 = .ok (.iconst 1, 1) := by decide +kernel
theorem dX12_demand_25 : decode cX12_demand 25 = .ok (.goto 4, 3) := by decide +kernel
theorem dX12_demand_28 : decode cX12_demand 28 = .ok (.iconst 0, 1) := by decide +kernel
theorem dX12_demand_29 : decode cX12_demand 29 = .ok (.istore 5, 2) := by decide +kernel
theorem dX12_demand_31 : decode cX12_demand 31 = .ok (.aload_n 0, 1) := by decide +kernel
theorem dX12_demand_32 : decode cX12_demand 32 = .ok (.iload 5, 2) := by decide +kernel
theorem dX12_demand_34 : decode cX12_demand 34 = .ok (.ifCond .ne 7, 3) := by decide +kernel
theorem dX12_demand_37 : decode cX12_demand 37 = .ok (.iconst 1, 1) := by decide +kernel
theorem dX12_demand_38 : decode cX12_demand 38 = .ok (.goto 32, 3) := by decide +kernel
theorem dX12_demand_41 : decode cX12_demand 41 = .ok (.iload 4, 2) := by decide +kernel
theorem dX12_demand_43 : decode cX12_demand 43 = .ok (.iconst 0, 1) := by decide +kernel
theorem dX12_demand_44 : decode cX12_demand 44 = .ok (.bipush 7, 2) := by decide +kernel
theorem dX12_demand_46 : decode cX12_demand 46 = .ok (.invokestatic 75, 3) := by decide +kernel
theorem dX12_demand_49 : decode cX12_demand 49 = .ok (.ifCond .ne 7, 3) := by decide +kernel
theorem dX12_demand_52 : decode cX12_demand 52 = .ok (.iconst 2, 1) := by decide +kernel
theorem dX12_demand_53 : decode cX12_demand 53 = .ok (.goto 17, 3) := by decide +kernel
theorem dX12_demand_56 : decode cX12_demand 56 = .ok (.aload_n 0, 1) := by decide +kernel
theorem dX12_demand_57 : decode cX12_demand 57 = .ok (.getfield 125, 3) := by decide +kernel
theorem dX12_demand_60 : decode cX12_demand 60 = .ok (.bipush 6, 2) := by decide +kernel
theorem dX12_demand_62 : decode cX12_demand 62 = .ok (.if_icmp .ne 7, 3) := by decide +kernel
theorem dX12_demand_65 : decode cX12_demand 65 = .ok (.iconst 3, 1) := by decide +kernel
theorem dX12_demand_66 : decode cX12_demand 66 = .ok (.goto 4, 3) := by decide +kernel
theorem dX12_demand_69 : decode cX12_demand 69 = .ok (.iconst 0, 1) := by decide +kernel
theorem dX12_demand_70 : decode cX12_demand 70 = .ok (.invokevirtual 101, 3) := by decide +kernel
theorem dX12_demand_73 : decode cX12_demand 73 = .ok (.ifCond .ne 5, 3) := by decide +kernel
theorem dX12_demand_76 : decode cX12_demand 76 = .ok (.iconst 0, 1) := by decide +kernel
theorem dX12_demand_77 : decode cX12_demand 77 = .ok (.ireturn, 1) := by decide +kernel
theorem dX12_demand_78 : decode cX12_demand 78 = .ok (.iconst 4, 1) := by decide +kernel
theorem dX12_demand_79 : decode cX12_demand 79 = .ok (.aload_n 0, 1) := by decide +kernel
theorem dX12_demand_80 : decode cX12_demand 80 = .ok (.getfield 125, 3) := by decide +kernel
theorem dX12_demand_83 : decode cX12_demand 83 = .ok (.imul, 1) := by decide +kernel
theorem dX12_demand_84 : decode cX12_demand 84 = .ok (.istore 6, 2) := by decide +kernel
theorem dX12_demand_86 : decode cX12_demand 86 = .ok (.aload_n 0, 1) := by decide +kernel
theorem dX12_demand_87 : decode cX12_demand 87 = .ok (.getfield 26, 3) := by decide +kernel
theorem dX12_demand_90 : decode cX12_demand 90 = .ok (.iload 6, 2) := by decide +kernel
theorem dX12_demand_92 : decode cX12_demand 92 = .ok (.iload_n 1, 1) := by decide +kernel
theorem dX12_demand_93 : decode cX12_demand 93 = .ok (.iastore, 1) := by decide +kernel
theorem dX12_demand_94 : decode cX12_demand 94 = .ok (.aload_n 0, 1) := by decide +kernel
theorem dX12_demand_95 : decode cX12_demand 95 = .ok (.getfield 26, 3) := by decide +kernel
theorem dX12_demand_98 : decode cX12_demand 98 = .ok (.iload 6, 2) := by decide +kernel
theorem dX12_demand_100 : decode cX12_demand 100 = .ok (.iconst 1, 1) := by decide +kernel
theorem dX12_demand_101 : decode cX12_demand 101 = .ok (.iadd, 1) := by decide +kernel
theorem dX12_demand_102 : decode cX12_demand 102 = .ok (.iload_n 2, 1) := by decide +kernel
theorem dX12_demand_103 : decode cX12_demand 103 = .ok (.iastore, 1) := by decide +kernel
theorem dX12_demand_104 : decode cX12_demand 104 = .ok (.aload_n 0, 1) := by decide +kernel
theorem dX12_demand_105 : decode cX12_demand 105 = .ok (.getfield 26, 3) := by decide +kernel
theorem dX12_demand_108 : decode cX12_demand 108 = .ok (.iload 6, 2) := by decide +kernel
theorem dX12_demand_110 : decode cX12_demand 110 = .ok (.iconst 2, 1) := by decide +kernel
theorem dX12_demand_111 : decode cX12_demand 111 = .ok (.iadd, 1) := by decide +kernel
theorem dX12_demand_112 : decode cX12_demand 112 = .ok (.iload_n 3, 1) := by decide +kernel
theorem dX12_demand_113 : decode cX12_demand 113 = .ok (.iastore, 1) := by decide +kernel
theorem dX12_demand_114 : decode cX12_demand 114 = .ok (.aload_n 0, 1) := by decide +kernel
theorem dX12_demand_115 : decode cX12_demand 115 = .ok (.getfield 26, 3) := by decide +kernel
theorem dX12_demand_118 : decode cX12_demand 118 = .ok (.iload 6, 2) := by decide +kernel
theorem dX12_demand_120 : decode cX12_demand 120 = .ok (.iconst 3, 1) := by decide +kernel
theorem dX12_demand_121 : decode cX12_demand 121 = .ok (.iadd, 1) := by decide +kernel
theorem dX12_demand_122 : decode cX12_demand 122 = .ok (.iload 4, 2) := by decide +kernel
theorem dX12_demand_124 : decode cX12_demand 124 = .ok (.iastore, 1) := by decide +kernel
theorem dX12_demand_125 : decode cX12_demand 125 = .ok (.aload_n 0, 1) := by decide +kernel
theorem dX12_demand_126 : decode cX12_demand 126 = .ok (.dup, 1) := by decide +kernel
theorem dX12_demand_127 : decode cX12_demand 127 = .ok (.getfield 125, 3) := by decide +kernel
theorem dX12_demand_130 : decode cX12_demand 130 = .ok (.iconst 1, 1) := by decide +kernel
theorem dX12_demand_131 : decode cX12_demand 131 = .ok (.iadd, 1) := by decide +kernel
theorem dX12_demand_132 : decode cX12_demand 132 = .ok (.putfield 125, 3) := by decide +kernel
theorem dX12_demand_135 : decode cX12_demand 135 = .ok (.aload_n 0, 1) := by decide +kernel
theorem dX12_demand_136 : decode cX12_demand 136 = .ok (.iconst 0, 1) := by decide +kernel
theorem dX12_demand_137 : decode cX12_demand 137 = .ok (.putfield 104, 3) := by decide +kernel
theorem dX12_demand_140 : decode cX12_demand 140 = .ok (.aload_n 0, 1) := by decide +kernel
theorem dX12_demand_141 : decode cX12_demand 141 = .ok (.getfield 125, 3) := by decide +kernel
theorem dX12_demand_144 : decode cX12_demand 144 = .ok (.iconst 1, 1) := by decide +kernel
theorem dX12_demand_145 : decode cX12_demand 145 = .ok (.isub, 1) := by decide +kernel
theorem dX12_demand_146 : decode cX12_demand 146 = .ok (.ireturn, 1) := by decide +kernel
theorem dX12_advise_0 : decode cX12_advise 0 = .ok (.aload_n 0, 1) := by decide +kernel
theorem dX12_advise_1 : decode cX12_advise 1 = .ok (.iload_n 1, 1) := by decide +kernel
theorem dX12_advise_2 : decode cX12_advise 2 = .ok (.invokestatic 93, 3) := by decide +kernel
theorem dX12_advise_5 : decode cX12_advise 5 = .ok (.ifCond .eq 11, 3) := by decide +kernel
theorem dX12_advise_8 : decode cX12_advise 8 = .ok (.aload_n 0, 1) := by decide +kernel
theorem dX12_advise_9 : decode cX12_advise 9 = .ok (.iload_n 2, 1) := by decide +kernel
theorem dX12_advise_10 : decode cX12_advise 10 = .ok (.invokevirtual 122, 3) := by decide +kernel
theorem dX12_advise_13 : decode cX12_advise 13 = .ok (.ifCond .ne 7, 3) := by decide +kernel
theorem dX12_advise_16 : decode cX12_advise 16 = .ok (.iconst 1, 1) := by decide +kernel
theorem dX12_advise_17 : decode cX12_advise 17 = .ok (.goto 17, 3) := by decide +kernel
theorem dX12_advise_20 : decode cX12_advise 20 = .ok (.aload_n 0, 1) := by decide +kernel
theorem dX12_advise_21 : decode cX12_advise 21 = .ok (.getfield 128, 3) := by decide +kernel
theorem dX12_advise_24 : decode cX12_advise 24 = .ok (.bipush 8, 2) := by decide +kernel
theorem dX12_advise_26 : decode cX12_advise 26 = .ok (.if_icmp .ne 7, 3) := by decide +kernel
theorem dX12_advise_29 : decode cX12_advise 29 = .ok (.iconst 2, 1) := by decide +kernel
theorem dX12_advise_30 : decode cX12_advise 30 = .ok (.goto 4, 3) := by decide +kernel
theorem dX12_advise_33 : decode cX12_advise 33 = .ok (.iconst 0, 1) := by decide +kernel
theorem dX12_advise_34 : decode cX12_advise 34 = .ok (.invokevirtual 101, 3) := by decide +kernel
theorem dX12_advise_37 : decode cX12_advise 37 = .ok (.ifCond .ne 5, 3) := by decide +kernel
theorem dX12_advise_40 : decode cX12_advise 40 = .ok (.iconst 0, 1) := by decide +kernel
theorem dX12_advise_41 : decode cX12_advise 41 = .ok (.ireturn, 1) := by decide +kernel
theorem dX12_advise_42 : decode cX12_advise 42 = .ok (.aload_n 0, 1) := by decide +kernel
theorem dX12_advise_43 : decode cX12_advise 43 = .ok (.getfield 29, 3) := by decide +kernel
theorem dX12_advise_46 : decode cX12_advise 46 = .ok (.iconst 2, 1) := by decide +kernel
theorem dX12_advise_47 : decode cX12_advise 47 = .ok (.aload_n 0, 1) := by decide +kernel
theorem dX12_advise_48 : decode cX12_advise 48 = .ok (.getfield 128, 3) := by decide +kernel
theorem dX12_advise_51 : decode cX12_advise 51 = .ok (.imul, 1) := by decide +kernel
theorem dX12_advise_52 : decode cX12_advise 52 = .ok (.iload_n 1, 1) := by decide +kernel
theorem dX12_advise_53 : decode cX12_advise 53 = .ok (.iastore, 1) := by decide +kernel
theorem dX12_advise_54 : decode cX12_advise 54 = .ok (.aload_n 0, 1) := by decide +kernel
theorem dX12_advise_55 : decode cX12_advise 55 = .ok (.getfield 29, 3) := by decide +kernel
theorem dX12_advise_58 : decode cX12_advise 58 = .ok (.iconst 2, 1) := by decide +kernel
theorem dX12_advise_59 : decode cX12_advise 59 = .ok (.aload_n 0, 1) := by decide +kernel
theorem dX12_advise_60 : decode cX12_advise 60 = .ok (.getfield 128, 3) := by decide +kernel
theorem dX12_advise_63 : decode cX12_advise 63 = .ok (.imul, 1) := by decide +kernel
theorem dX12_advise_64 : decode cX12_advise 64 = .ok (.iconst 1, 1) := by decide +kernel
theorem dX12_advise_65 : decode cX12_advise 65 = .ok (.iadd, 1) := by decide +kernel
theorem dX12_advise_66 : decode cX12_advise 66 = .ok (.iload_n 2, 1) := by decide +kernel
theorem dX12_advise_67 : decode cX12_advise 67 = .ok (.iastore, 1) := by decide +kernel
theorem dX12_advise_68 : decode cX12_advise 68 = .ok (.aload_n 0, 1) := by decide +kernel
theorem dX12_advise_69 : decode cX12_advise 69 = .ok (.dup, 1) := by decide +kernel
theorem dX12_advise_70 : decode cX12_advise 70 = .ok (.getfield 128, 3) := by decide +kernel
theorem dX12_advise_73 : decode cX12_advise 73 = .ok (.iconst 1, 1) := by decide +kernel
theorem dX12_advise_74 : decode cX12_advise 74 = .ok (.iadd, 1) := by decide +kernel
theorem dX12_advise_75 : decode cX12_advise 75 = .ok (.putfield 128, 3) := by decide +kernel
theorem dX12_advise_78 : decode cX12_advise 78 = .ok (.aload_n 0, 1) := by decide +kernel
theorem dX12_advise_79 : decode cX12_advise 79 = .ok (.iconst 0, 1) := by decide +kernel
theorem dX12_advise_80 : decode cX12_advise 80 = .ok (.putfield 104, 3) := by decide +kernel
theorem dX12_advise_83 : decode cX12_advise 83 = .ok (.aload_n 0, 1) := by decide +kernel
theorem dX12_advise_84 : decode cX12_advise 84 = .ok (.getfield 128, 3) := by decide +kernel
theorem dX12_advise_87 : decode cX12_advise 87 = .ok (.ireturn, 1) := by decide +kernel
theorem dX12_hinders_0 : decode cX12_hinders 0 = .ok (.bipush 9, 2) := by decide +kernel
theorem dX12_hinders_2 : decode cX12_hinders 2 = .ok (.iload_n 1, 1) := by decide +kernel
theorem dX12_hinders_3 : decode cX12_hinders 3 = .ok (.imul, 1) := by decide +kernel
theorem dX12_hinders_4 : decode cX12_hinders 4 = .ok (.istore_n 2, 1) := by decide +kernel
theorem dX12_hinders_5 : decode cX12_hinders 5 = .ok (.iconst 0, 1) := by decide +kernel
theorem dX12_hinders_6 : decode cX12_hinders 6 = .ok (.istore_n 3, 1) := by decide +kernel
theorem dX12_hinders_7 : decode cX12_hinders 7 = .ok (.iconst 0, 1) := by decide +kernel
theorem dX12_hinders_8 : decode cX12_hinders 8 = .ok (.istore 4, 2) := by decide +kernel
theorem dX12_hinders_10 : decode cX12_hinders 10 = .ok (.iload 4, 2) := by decide +kernel
theorem dX12_hinders_12 : decode cX12_hinders 12 = .ok (.aload_n 0, 1) := by decide +kernel
theorem dX12_hinders_13 : decode cX12_hinders 13 = .ok (.getfield 79, 3) := by decide +kernel
theorem dX12_hinders_16 : decode cX12_hinders 16 = .ok (.if_icmp .ge 61, 3) := by decide +kernel
theorem dX12_hinders_19 : decode cX12_hinders 19 = .ok (.iload_n 3, 1) := by decide +kernel
theorem dX12_hinders_20 : decode cX12_hinders 20 = .ok (.ifCond .ne 45, 3) := by decide +kernel
theorem dX12_hinders_23 : decode cX12_hinders 23 = .ok (.aload_n 0, 1) := by decide +kernel
theorem dX12_hinders_24 : decode cX12_hinders 24 = .ok (.getfield 7, 3) := by decide +kernel
theorem dX12_hinders_27 : decode cX12_hinders 27 = .ok (.iload_n 2, 1) := by decide +kernel
theorem dX12_hinders_28 : decode cX12_hinders 28 = .ok (.iconst 5, 1) := by decide +kernel
theorem dX12_hinders_29 : decode cX12_hinders 29 = .ok (.iadd, 1) := by decide +kernel
theorem dX12_hinders_30 : decode cX12_hinders 30 = .ok (.iaload, 1) := by decide +kernel
theorem dX12_hinders_31 : decode cX12_hinders 31 = .ok (.iconst 1, 1) := by decide +kernel
theorem dX12_hinders_32 : decode cX12_hinders 32 = .ok (.if_icmp .ne 37, 3) := by decide +kernel
theorem dX12_hinders_35 : decode cX12_hinders 35 = .ok (.aload_n 0, 1) := by decide +kernel
theorem dX12_hinders_36 : decode cX12_hinders 36 = .ok (.iload 4, 2) := by decide +kernel
theorem dX12_hinders_38 : decode cX12_hinders 38 = .ok (.invokevirtual 97, 3) := by decide +kernel
theorem dX12_hinders_41 : decode cX12_hinders 41 = .ok (.aload_n 0, 1) := by decide +kernel
theorem dX12_hinders_42 : decode cX12_hinders 42 = .ok (.getfield 7, 3) := by decide +kernel
theorem dX12_hinders_45 : decode cX12_hinders 45 = .ok (.iload_n 2, 1) := by decide +kernel
theorem dX12_hinders_46 : decode cX12_hinders 46 = .ok (.iaload, 1) := by decide +kernel
theorem dX12_hinders_47 : decode cX12_hinders 47 = .ok (.if_icmp .ne 22, 3) := by decide +kernel
theorem dX12_hinders_50 : decode cX12_hinders 50 = .ok (.aload_n 0, 1) := by decide +kernel
theorem dX12_hinders_51 : decode cX12_hinders 51 = .ok (.getfield 7, 3) := by decide +kernel
theorem dX12_hinders_54 : decode cX12_hinders 54 = .ok (.bipush 9, 2) := by decide +kernel
theorem dX12_hinders_56 : decode cX12_hinders 56 = .ok (.iload 4, 2) := by decide +kernel
theorem dX12_hinders_58 : decode cX12_hinders 58 = .ok (.imul, 1) := by decide +kernel
theorem dX12_hinders_59 : decode cX12_hinders 59 = .ok (.iconst 5, 1) := by decide +kernel
theorem dX12_hinders_60 : decode cX12_hinders 60 = .ok (.iadd, 1) := by decide +kernel
theorem dX12_hinders_61 : decode cX12_hinders 61 = .ok (.iaload, 1) := by decide +kernel
theorem dX12_hinders_62 : decode cX12_hinders 62 = .ok (.ifCond .ne 7, 3) := by decide +kernel
theorem dX12_hinders_65 : decode cX12_hinders 65 = .ok (.iconst 1, 1) := by decide +kernel
theorem dX12_hinders_66 : decode cX12_hinders 66 = .ok (.goto 4, 3) := by decide +kernel
theorem dX12_hinders_69 : decode cX12_hinders 69 = .ok (.iconst 0, 1) := by decide +kernel
theorem dX12_hinders_70 : decode cX12_hinders 70 = .ok (.istore_n 3, 1) := by decide +kernel
theorem dX12_hinders_71 : decode cX12_hinders 71 = .ok (.iinc 4 1, 3) := by decide +kernel
theorem dX12_hinders_74 : decode cX12_hinders 74 = .ok (.goto (-64), 3) := by decide +kernel
theorem dX12_hinders_77 : decode cX12_hinders 77 = .ok (.iconst 0, 1) := by decide +kernel
theorem dX12_hinders_78 : decode cX12_hinders 78 = .ok (.istore 4, 2) := by decide +kernel
theorem dX12_hinders_80 : decode cX12_hinders 80 = .ok (.iconst 0, 1) := by decide +kernel
theorem dX12_hinders_81 : decode cX12_hinders 81 = .ok (.istore 5, 2) := by decide +kernel
theorem dX12_hinders_83 : decode cX12_hinders 83 = .ok (.iload 5, 2) := by decide +kernel
theorem dX12_hinders_85 : decode cX12_hinders 85 = .ok (.aload_n 0, 1) := by decide +kernel
theorem dX12_hinders_86 : decode cX12_hinders 86 = .ok (.getfield 128, 3) := by decide +kernel
theorem dX12_hinders_89 : decode cX12_hinders 89 = .ok (.if_icmp .ge 63, 3) := by decide +kernel
theorem dX12_hinders_92 : decode cX12_hinders 92 = .ok (.iload 4, 2) := by decide +kernel
theorem dX12_hinders_94 : decode cX12_hinders 94 = .ok (.ifCond .ne 45, 3) := by decide +kernel
theorem dX12_hinders_97 : decode cX12_hinders 97 = .ok (.aload_n 0, 1) := by decide +kernel
theorem dX12_hinders_98 : decode cX12_hinders 98 = .ok (.getfield 29, 3) := by decide +kernel
theorem dX12_hinders_101 : decode cX12_hinders 101 = .ok (.iconst 2, 1) := by decide +kernel
theorem dX12_hinders_102 : decode cX12_hinders 102 = .ok (.iload 5, 2) := by decide +kernel
theorem dX12_hinders_104 : decode cX12_hinders 104 = .ok (.imul, 1) := by decide +kernel
theorem dX12_hinders_105 : decode cX12_hinders 105 = .ok (.iaload, 1) := by decide +kernel
theorem dX12_hinders_106 : decode cX12_hinders 106 = .ok (.aload_n 0, 1) := by decide +kernel
theorem dX12_hinders_107 : decode cX12_hinders 107 = .ok (.getfield 7, 3) := by decide +kernel
theorem dX12_hinders_110 : decode cX12_hinders 110 = .ok (.iload_n 2, 1) := by decide +kernel
theorem dX12_hinders_111 : decode cX12_hinders 111 = .ok (.iaload, 1) := by decide +kernel
theorem dX12_hinders_112 : decode cX12_hinders 112 = .ok (.if_icmp .ne 31, 3) := by decide +kernel
theorem dX12_hinders_115 : decode cX12_hinders 115 = .ok (.aload_n 0, 1) := by decide +kernel
theorem dX12_hinders_116 : decode cX12_hinders 116 = .ok (.getfield 22, 3) := by decide +kernel
theorem dX12_hinders_119 : decode cX12_hinders 119 = .ok (.bipush 24, 2) := by decide +kernel
theorem dX12_hinders_121 : decode cX12_hinders 121 = .ok (.aload_n 0, 1) := by decide +kernel
theorem dX12_hinders_122 : decode cX12_hinders 122 = .ok (.getfield 29, 3) := by decide +kernel
theorem dX12_hinders_125 : decode cX12_hinders 125 = .ok (.iconst 2, 1) := by decide +kernel
theorem dX12_hinders_126 : decode cX12_hinders 126 = .ok (.iload 5, 2) := by decide +kernel
theorem dX12_hinders_128 : decode cX12_hinders 128 = .ok (.imul, 1) := by decide +kernel
theorem dX12_hinders_129 : decode cX12_hinders 129 = .ok (.iconst 1, 1) := by decide +kernel
theorem dX12_hinders_130 : decode cX12_hinders 130 = .ok (.iadd, 1) := by decide +kernel
theorem dX12_hinders_131 : decode cX12_hinders 131 = .ok (.iaload, 1) := by decide +kernel
theorem dX12_hinders_132 : decode cX12_hinders 132 = .ok (.imul, 1) := by decide +kernel
theorem dX12_hinders_133 : decode cX12_hinders 133 = .ok (.iload_n 1, 1) := by decide +kernel
theorem dX12_hinders_134 : decode cX12_hinders 134 = .ok (.iadd, 1) := by decide +kernel
theorem dX12_hinders_135 : decode cX12_hinders 135 = .ok (.baload, 1) := by decide +kernel
theorem dX12_hinders_136 : decode cX12_hinders 136 = .ok (.ifCond .eq 7, 3) := by decide +kernel
theorem dX12_hinders_139 : decode cX12_hinders 139 = .ok (.iconst 1, 1) := by decide +kernel
theorem dX12_hinders_140 : decode cX12_hinders 140 = .ok (.goto 4, 3) := by decide +kernel
theorem dX12_hinders_143 : decode cX12_hinders 143 = .ok (.iconst 0, 1) := by decide +kernel
theorem dX12_hinders_144 : decode cX12_hinders 144 = .ok (.istore 4, 2) := by decide +kernel
theorem dX12_hinders_146 : decode cX12_hinders 146 = .ok (.iinc 5 1, 3) := by decide +kernel
theorem dX12_hinders_149 : decode cX12_hinders 149 = .ok (.goto (-66), 3) := by decide +kernel
theorem dX12_hinders_152 : decode cX12_hinders 152 = .ok (.aload_n 0, 1) := by decide +kernel
theorem dX12_hinders_153 : decode cX12_hinders 153 = .ok (.getfield 7, 3) := by decide +kernel
theorem dX12_hinders_156 : decode cX12_hinders 156 = .ok (.iload_n 2, 1) := by decide +kernel
theorem dX12_hinders_157 : decode cX12_hinders 157 = .ok (.bipush 6, 2) := by decide +kernel
theorem dX12_hinders_159 : decode cX12_hinders 159 = .ok (.iadd, 1) := by decide +kernel
theorem dX12_hinders_160 : decode cX12_hinders 160 = .ok (.iaload, 1) := by decide +kernel
theorem dX12_hinders_161 : decode cX12_hinders 161 = .ok (.iconst 1, 1) := by decide +kernel
theorem dX12_hinders_162 : decode cX12_hinders 162 = .ok (.if_icmp .ne 22, 3) := by decide +kernel
theorem dX12_hinders_165 : decode cX12_hinders 165 = .ok (.aload_n 0, 1) := by decide +kernel
theorem dX12_hinders_166 : decode cX12_hinders 166 = .ok (.getfield 35, 3) := by decide +kernel
theorem dX12_hinders_169 : decode cX12_hinders 169 = .ok (.aload_n 0, 1) := by decide +kernel
theorem dX12_hinders_170 : decode cX12_hinders 170 = .ok (.getfield 7, 3) := by decide +kernel
theorem dX12_hinders_173 : decode cX12_hinders 173 = .ok (.iload_n 2, 1) := by decide +kernel
theorem dX12_hinders_174 : decode cX12_hinders 174 = .ok (.iaload, 1) := by decide +kernel
theorem dX12_hinders_175 : decode cX12_hinders 175 = .ok (.iaload, 1) := by decide +kernel
theorem dX12_hinders_176 : decode cX12_hinders 176 = .ok (.iload_n 1, 1) := by decide +kernel
theorem dX12_hinders_177 : decode cX12_hinders 177 = .ok (.if_icmp .eq 7, 3) := by decide +kernel
theorem dX12_hinders_180 : decode cX12_hinders 180 = .ok (.iconst 1, 1) := by decide +kernel
theorem dX12_hinders_181 : decode cX12_hinders 181 = .ok (.goto 4, 3) := by decide +kernel
theorem dX12_hinders_184 : decode cX12_hinders 184 = .ok (.iconst 0, 1) := by decide +kernel
theorem dX12_hinders_185 : decode cX12_hinders 185 = .ok (.istore 5, 2) := by decide +kernel
theorem dX12_hinders_187 : decode cX12_hinders 187 = .ok (.aload_n 0, 1) := by decide +kernel
theorem dX12_hinders_188 : decode cX12_hinders 188 = .ok (.getfield 7, 3) := by decide +kernel
theorem dX12_hinders_191 : decode cX12_hinders 191 = .ok (.iload_n 2, 1) := by decide +kernel
theorem dX12_hinders_192 : decode cX12_hinders 192 = .ok (.bipush 7, 2) := by decide +kernel
theorem dX12_hinders_194 : decode cX12_hinders 194 = .ok (.iadd, 1) := by decide +kernel
theorem dX12_hinders_195 : decode cX12_hinders 195 = .ok (.iaload, 1) := by decide +kernel
theorem dX12_hinders_196 : decode cX12_hinders 196 = .ok (.aload_n 0, 1) := by decide +kernel
theorem dX12_hinders_197 : decode cX12_hinders 197 = .ok (.getfield 131, 3) := by decide +kernel
theorem dX12_hinders_200 : decode cX12_hinders 200 = .ok (.ishr, 1) := by decide +kernel
theorem dX12_hinders_201 : decode cX12_hinders 201 = .ok (.iconst 1, 1) := by decide +kernel
theorem dX12_hinders_202 : decode cX12_hinders 202 = .ok (.iand, 1) := by decide +kernel
theorem dX12_hinders_203 : decode cX12_hinders 203 = .ok (.ifCond .ne 7, 3) := by decide +kernel
theorem dX12_hinders_206 : decode cX12_hinders 206 = .ok (.iconst 1, 1) := by decide +kernel
theorem dX12_hinders_207 : decode cX12_hinders 207 = .ok (.goto 4, 3) := by decide +kernel
theorem dX12_hinders_210 : decode cX12_hinders 210 = .ok (.iconst 0, 1) := by decide +kernel
theorem dX12_hinders_211 : decode cX12_hinders 211 = .ok (.istore 6, 2) := by decide +kernel
theorem dX12_hinders_213 : decode cX12_hinders 213 = .ok (.iload_n 3, 1) := by decide +kernel
theorem dX12_hinders_214 : decode cX12_hinders 214 = .ok (.ifCond .eq 7, 3) := by decide +kernel
theorem dX12_hinders_217 : decode cX12_hinders 217 = .ok (.iconst 1, 1) := by decide +kernel
theorem dX12_hinders_218 : decode cX12_hinders 218 = .ok (.goto 31, 3) := by decide +kernel
theorem dX12_hinders_221 : decode cX12_hinders 221 = .ok (.iload 5, 2) := by decide +kernel
theorem dX12_hinders_223 : decode cX12_hinders 223 = .ok (.ifCond .eq 7, 3) := by decide +kernel
theorem dX12_hinders_226 : decode cX12_hinders 226 = .ok (.iconst 2, 1) := by decide +kernel
theorem dX12_hinders_227 : decode cX12_hinders 227 = .ok (.goto 22, 3) := by decide +kernel
theorem dX12_hinders_230 : decode cX12_hinders 230 = .ok (.iload 6, 2) := by decide +kernel
theorem dX12_hinders_232 : decode cX12_hinders 232 = .ok (.ifCond .eq 7, 3) := by decide +kernel
theorem dX12_hinders_235 : decode cX12_hinders 235 = .ok (.iconst 3, 1) := by decide +kernel
theorem dX12_hinders_236 : decode cX12_hinders 236 = .ok (.goto 13, 3) := by decide +kernel
theorem dX12_hinders_239 : decode cX12_hinders 239 = .ok (.iload 4, 2) := by decide +kernel
theorem dX12_hinders_241 : decode cX12_hinders 241 = .ok (.ifCond .eq 7, 3) := by decide +kernel
theorem dX12_hinders_244 : decode cX12_hinders 244 = .ok (.iconst 4, 1) := by decide +kernel
theorem dX12_hinders_245 : decode cX12_hinders 245 = .ok (.goto 4, 3) := by decide +kernel
theorem dX12_hinders_248 : decode cX12_hinders 248 = .ok (.iconst 0, 1) := by decide +kernel
theorem dX12_hinders_249 : decode cX12_hinders 249 = .ok (.ireturn, 1) := by decide +kernel
theorem dX12_mending_0 : decode cX12_mending 0 = .ok (.aload_n 0, 1) := by decide +kernel
theorem dX12_mending_1 : decode cX12_mending 1 = .ok (.aload_n 0, 1) := by decide +kernel
theorem dX12_mending_2 : decode cX12_mending 2 = .ok (.iload_n 1, 1) := by decide +kernel
theorem dX12_mending_3 : decode cX12_mending 3 = .ok (.invokevirtual 108, 3) := by decide +kernel
theorem dX12_mending_6 : decode cX12_mending 6 = .ok (.ifCond .eq 7, 3) := by decide +kernel
theorem dX12_mending_9 : decode cX12_mending 9 = .ok (.iconst 0, 1) := by decide +kernel
theorem dX12_mending_10 : decode cX12_mending 10 = .ok (.goto 4, 3) := by decide +kernel
theorem dX12_mending_13 : decode cX12_mending 13 = .ok (.iconst 1, 1) := by decide +kernel
theorem dX12_mending_14 : decode cX12_mending 14 = .ok (.invokevirtual 101, 3) := by decide +kernel
theorem dX12_mending_17 : decode cX12_mending 17 = .ok (.ifCond .ne 5, 3) := by decide +kernel
theorem dX12_mending_20 : decode cX12_mending 20 = .ok (.iconst 0, 1) := by decide +kernel
theorem dX12_mending_21 : decode cX12_mending 21 = .ok (.ireturn, 1) := by decide +kernel
theorem dX12_mending_22 : decode cX12_mending 22 = .ok (.iconst (-1), 1) := by decide +kernel
theorem dX12_mending_23 : decode cX12_mending 23 = .ok (.istore_n 2, 1) := by decide +kernel
theorem dX12_mending_24 : decode cX12_mending 24 = .ok (.iconst 0, 1) := by decide +kernel
theorem dX12_mending_25 : decode cX12_mending 25 = .ok (.istore_n 3, 1) := by decide +kernel
theorem dX12_mending_26 : decode cX12_mending 26 = .ok (.iload_n 3, 1) := by decide +kernel
theorem dX12_mending_27 : decode cX12_mending 27 = .ok (.aload_n 0, 1) := by decide +kernel
theorem dX12_mending_28 : decode cX12_mending 28 = .ok (.getfield 79, 3) := by decide +kernel
theorem dX12_mending_31 : decode cX12_mending 31 = .ok (.if_icmp .ge 71, 3) := by decide +kernel
theorem dX12_mending_34 : decode cX12_mending 34 = .ok (.aload_n 0, 1) := by decide +kernel
theorem dX12_mending_35 : decode cX12_mending 35 = .ok (.iload_n 3, 1) := by decide +kernel
theorem dX12_mending_36 : decode cX12_mending 36 = .ok (.invokevirtual 97, 3) := by decide +kernel
theorem dX12_mending_39 : decode cX12_mending 39 = .ok (.aload_n 0, 1) := by decide +kernel
theorem dX12_mending_40 : decode cX12_mending 40 = .ok (.iload_n 1, 1) := by decide +kernel
theorem dX12_mending_41 : decode cX12_mending 41 = .ok (.invokevirtual 97, 3) := by decide +kernel
theorem dX12_mending_44 : decode cX12_mending 44 = .ok (.if_icmp .ne 24, 3) := by decide +kernel
theorem dX12_mending_47 : decode cX12_mending 47 = .ok (.aload_n 0, 1) := by decide +kernel
theorem dX12_mending_48 : decode cX12_mending 48 = .ok (.iload_n 3, 1) := by decide +kernel
theorem dX12_mending_49 : decode cX12_mending 49 = .ok (.iload_n 1, 1) := by decide +kernel
theorem dX12_mending_50 : decode cX12_mending 50 = .ok (.invokevirtual 111, 3) := by decide +kernel
theorem dX12_mending_53 : decode cX12_mending 53 = .ok (.ifCond .le 15, 3) := by decide +kernel
theorem dX12_mending_56 : decode cX12_mending 56 = .ok (.aload_n 0, 1) := by decide +kernel
theorem dX12_mending_57 : decode cX12_mending 57 = .ok (.iload_n 3, 1) := by decide +kernel
theorem dX12_mending_58 : decode cX12_mending 58 = .ok (.invokevirtual 134, 3) := by decide +kernel
theorem dX12_mending_61 : decode cX12_mending 61 = .ok (.ifCond .ne 7, 3) := by decide +kernel
theorem dX12_mending_64 : decode cX12_mending 64 = .ok (.iconst 1, 1) := by decide +kernel
theorem dX12_mending_65 : decode cX12_mending 65 = .ok (.goto 4, 3) := by decide +kernel
theorem dX12_mending_68 : decode cX12_mending 68 = .ok (.iconst 0, 1) := by decide +kernel
theorem dX12_mending_69 : decode cX12_mending 69 = .ok (.istore 4, 2) := by decide +kernel
theorem dX12_mending_71 : decode cX12_mending 71 = .ok (.iload 4, 2) := by decide +kernel
theorem dX12_mending_73 : decode cX12_mending 73 = .ok (.ifCond .eq 21, 3) := by decide +kernel
theorem dX12_mending_76 : decode cX12_mending 76 = .ok (.iload_n 2, 1) := by decide +kernel
theorem dX12_mending_77 : decode cX12_mending 77 = .ok (.iconst (-1), 1) := by decide +kernel
theorem dX12_mending_78 : decode cX12_mending 78 = .ok (.if_icmp .eq 12, 3) := by decide +kernel
theorem dX12_mending_81 : decode cX12_mending 81 = .ok (.aload_n 0, 1) := by decide +kernel
theorem dX12_mending_82 : decode cX12_mending 82 = .ok (.iload_n 3, 1) := by decide +kernel
theorem dX12_mending_83 : decode cX12_mending 83 = .ok (.iload_n 2, 1) := by decide +kernel
theorem dX12_mending_84 : decode cX12_mending 84 = .ok (.invokevirtual 111, 3) := by decide +kernel
theorem dX12_mending_87 : decode cX12_mending 87 = .ok (.ifCond .ge 7, 3) := by decide +kernel
theorem dX12_mending_90 : decode cX12_mending 90 = .ok (.iload_n 3, 1) := by decide +kernel
theorem dX12_mending_91 : decode cX12_mending 91 = .ok (.goto 4, 3) := by decide +kernel
theorem dX12_mending_94 : decode cX12_mending 94 = .ok (.iload_n 2, 1) := by decide +kernel
theorem dX12_mending_95 : decode cX12_mending 95 = .ok (.istore_n 2, 1) := by decide +kernel
theorem dX12_mending_96 : decode cX12_mending 96 = .ok (.iinc 3 1, 3) := by decide +kernel
theorem dX12_mending_99 : decode cX12_mending 99 = .ok (.goto (-73), 3) := by decide +kernel
theorem dX12_mending_102 : decode cX12_mending 102 = .ok (.iload_n 2, 1) := by decide +kernel
theorem dX12_mending_103 : decode cX12_mending 103 = .ok (.ireturn, 1) := by decide +kernel
theorem dX12_standsFor_0 : decode cX12_standsFor 0 = .ok (.iload_n 1, 1) := by decide +kernel
theorem dX12_standsFor_1 : decode cX12_standsFor 1 = .ok (.istore_n 2, 1) := by decide +kernel
theorem dX12_standsFor_2 : decode cX12_standsFor 2 = .ok (.aload_n 0, 1) := by decide +kernel
theorem dX12_standsFor_3 : decode cX12_standsFor 3 = .ok (.getfield 32, 3) := by decide +kernel
theorem dX12_standsFor_6 : decode cX12_standsFor 6 = .ok (.iload_n 2, 1) := by decide +kernel
theorem dX12_standsFor_7 : decode cX12_standsFor 7 = .ok (.iaload, 1) := by decide +kernel
theorem dX12_standsFor_8 : decode cX12_standsFor 8 = .ok (.iconst (-1), 1) := by decide +kernel
theorem dX12_standsFor_9 : decode cX12_standsFor 9 = .ok (.if_icmp .eq 13, 3) := by decide +kernel
theorem dX12_standsFor_12 : decode cX12_standsFor 12 = .ok (.aload_n 0, 1) := by decide +kernel
theorem dX12_standsFor_13 : decode cX12_standsFor 13 = .ok (.getfield 32, 3) := by decide +kernel
theorem dX12_standsFor_16 : decode cX12_standsFor 16 = .ok (.iload_n 2, 1) := by decide +kernel
theorem dX12_standsFor_17 : decode cX12_standsFor 17 = .ok (.iaload, 1) := by decide +kernel
theorem dX12_standsFor_18 : decode cX12_standsFor 18 = .ok (.istore_n 2, 1) := by decide +kernel
theorem dX12_standsFor_19 : decode cX12_standsFor 19 = .ok (.goto (-17), 3) := by decide +kernel
theorem dX12_standsFor_22 : decode cX12_standsFor 22 = .ok (.iload_n 2, 1) := by decide +kernel
theorem dX12_standsFor_23 : decode cX12_standsFor 23 = .ok (.ireturn, 1) := by decide +kernel
theorem dX12_replace_0 : decode cX12_replace 0 = .ok (.iload_n 1, 1) := by decide +kernel
theorem dX12_replace_1 : decode cX12_replace 1 = .ok (.invokestatic 93, 3) := by decide +kernel
theorem dX12_replace_4 : decode cX12_replace 4 = .ok (.ifCond .eq 16, 3) := by decide +kernel
theorem dX12_replace_7 : decode cX12_replace 7 = .ok (.iload_n 2, 1) := by decide +kernel
theorem dX12_replace_8 : decode cX12_replace 8 = .ok (.iconst (-1), 1) := by decide +kernel
theorem dX12_replace_9 : decode cX12_replace 9 = .ok (.iconst 5, 1) := by decide +kernel
theorem dX12_replace_10 : decode cX12_replace 10 = .ok (.invokestatic 75, 3) := by decide +kernel
theorem dX12_replace_13 : decode cX12_replace 13 = .ok (.ifCond .eq 7, 3) := by decide +kernel
theorem dX12_replace_16 : decode cX12_replace 16 = .ok (.iconst 1, 1) := by decide +kernel
theorem dX12_replace_17 : decode cX12_replace 17 = .ok (.goto 4, 3) := by decide +kernel
theorem dX12_replace_20 : decode cX12_replace 20 = .ok (.iconst 0, 1) := by decide +kernel
theorem dX12_replace_21 : decode cX12_replace 21 = .ok (.istore_n 3, 1) := by decide +kernel
theorem dX12_replace_22 : decode cX12_replace 22 = .ok (.iload_n 3, 1) := by decide +kernel
theorem dX12_replace_23 : decode cX12_replace 23 = .ok (.ifCond .eq 12, 3) := by decide +kernel
theorem dX12_replace_26 : decode cX12_replace 26 = .ok (.iload_n 2, 1) := by decide +kernel
theorem dX12_replace_27 : decode cX12_replace 27 = .ok (.iload_n 1, 1) := by decide +kernel
theorem dX12_replace_28 : decode cX12_replace 28 = .ok (.if_icmp .ne 7, 3) := by decide +kernel
theorem dX12_replace_31 : decode cX12_replace 31 = .ok (.iconst 1, 1) := by decide +kernel
theorem dX12_replace_32 : decode cX12_replace 32 = .ok (.goto 4, 3) := by decide +kernel
theorem dX12_replace_35 : decode cX12_replace 35 = .ok (.iconst 0, 1) := by decide +kernel
theorem dX12_replace_36 : decode cX12_replace 36 = .ok (.istore 4, 2) := by decide +kernel
theorem dX12_replace_38 : decode cX12_replace 38 = .ok (.iload_n 3, 1) := by decide +kernel
theorem dX12_replace_39 : decode cX12_replace 39 = .ok (.ifCond .eq 7, 3) := by decide +kernel
theorem dX12_replace_42 : decode cX12_replace 42 = .ok (.iload_n 2, 1) := by decide +kernel
theorem dX12_replace_43 : decode cX12_replace 43 = .ok (.goto 4, 3) := by decide +kernel
theorem dX12_replace_46 : decode cX12_replace 46 = .ok (.iconst (-1), 1) := by decide +kernel
theorem dX12_replace_47 : decode cX12_replace 47 = .ok (.istore 5, 2) := by decide +kernel
theorem dX12_replace_49 : decode cX12_replace 49 = .ok (.iload 5, 2) := by decide +kernel
theorem dX12_replace_51 : decode cX12_replace 51 = .ok (.iconst (-1), 1) := by decide +kernel
theorem dX12_replace_52 : decode cX12_replace 52 = .ok (.if_icmp .eq 33, 3) := by decide +kernel
theorem dX12_replace_55 : decode cX12_replace 55 = .ok (.iload 4, 2) := by decide +kernel
theorem dX12_replace_57 : decode cX12_replace 57 = .ok (.ifCond .ne 28, 3) := by decide +kernel
theorem dX12_replace_60 : decode cX12_replace 60 = .ok (.aload_n 0, 1) := by decide +kernel
theorem dX12_replace_61 : decode cX12_replace 61 = .ok (.getfield 32, 3) := by decide +kernel
theorem dX12_replace_64 : decode cX12_replace 64 = .ok (.iload 5, 2) := by decide +kernel
theorem dX12_replace_66 : decode cX12_replace 66 = .ok (.iaload, 1) := by decide +kernel
theorem dX12_replace_67 : decode cX12_replace 67 = .ok (.istore 5, 2) := by decide +kernel
theorem dX12_replace_69 : decode cX12_replace 69 = .ok (.iload 5, 2) := by decide +kernel
theorem dX12_replace_71 : decode cX12_replace 71 = .ok (.iload_n 1, 1) := by decide +kernel
theorem dX12_replace_72 : decode cX12_replace 72 = .ok (.if_icmp .ne 7, 3) := by decide +kernel
theorem dX12_replace_75 : decode cX12_replace 75 = .ok (.iconst 1, 1) := by decide +kernel
theorem dX12_replace_76 : decode cX12_replace 76 = .ok (.goto 4, 3) := by decide +kernel
theorem dX12_replace_79 : decode cX12_replace 79 = .ok (.iconst 0, 1) := by decide +kernel
theorem dX12_replace_80 : decode cX12_replace 80 = .ok (.istore 4, 2) := by decide +kernel
theorem dX12_replace_82 : decode cX12_replace 82 = .ok (.goto (-33), 3) := by decide +kernel
theorem dX12_replace_85 : decode cX12_replace 85 = .ok (.aload_n 0, 1) := by decide +kernel
theorem dX12_replace_86 : decode cX12_replace 86 = .ok (.iload_n 3, 1) := by decide +kernel
theorem dX12_replace_87 : decode cX12_replace 87 = .ok (.ifCond .ne 7, 3) := by decide +kernel
theorem dX12_replace_90 : decode cX12_replace 90 = .ok (.iconst 1, 1) := by decide +kernel
theorem dX12_replace_91 : decode cX12_replace 91 = .ok (.goto 13, 3) := by decide +kernel
theorem dX12_replace_94 : decode cX12_replace 94 = .ok (.iload 4, 2) := by decide +kernel
theorem dX12_replace_96 : decode cX12_replace 96 = .ok (.ifCond .eq 7, 3) := by decide +kernel
theorem dX12_replace_99 : decode cX12_replace 99 = .ok (.iconst 2, 1) := by decide +kernel
theorem dX12_replace_100 : decode cX12_replace 100 = .ok (.goto 4, 3) := by decide +kernel
theorem dX12_replace_103 : decode cX12_replace 103 = .ok (.iconst 0, 1) := by decide +kernel
theorem dX12_replace_104 : decode cX12_replace 104 = .ok (.invokevirtual 101, 3) := by decide +kernel
theorem dX12_replace_107 : decode cX12_replace 107 = .ok (.ifCond .ne 5, 3) := by decide +kernel
theorem dX12_replace_110 : decode cX12_replace 110 = .ok (.iconst 0, 1) := by decide +kernel
theorem dX12_replace_111 : decode cX12_replace 111 = .ok (.ireturn, 1) := by decide +kernel
theorem dX12_replace_112 : decode cX12_replace 112 = .ok (.aload_n 0, 1) := by decide +kernel
theorem dX12_replace_113 : decode cX12_replace 113 = .ok (.getfield 32, 3) := by decide +kernel
theorem dX12_replace_116 : decode cX12_replace 116 = .ok (.iload_n 1, 1) := by decide +kernel
theorem dX12_replace_117 : decode cX12_replace 117 = .ok (.iaload, 1) := by decide +kernel
theorem dX12_replace_118 : decode cX12_replace 118 = .ok (.istore 6, 2) := by decide +kernel
theorem dX12_replace_120 : decode cX12_replace 120 = .ok (.aload_n 0, 1) := by decide +kernel
theorem dX12_replace_121 : decode cX12_replace 121 = .ok (.getfield 32, 3) := by decide +kernel
theorem dX12_replace_124 : decode cX12_replace 124 = .ok (.iload_n 1, 1) := by decide +kernel
theorem dX12_replace_125 : decode cX12_replace 125 = .ok (.iload_n 2, 1) := by decide +kernel
theorem dX12_replace_126 : decode cX12_replace 126 = .ok (.iastore, 1) := by decide +kernel
theorem dX12_replace_127 : decode cX12_replace 127 = .ok (.aload_n 0, 1) := by decide +kernel
theorem dX12_replace_128 : decode cX12_replace 128 = .ok (.iconst 0, 1) := by decide +kernel
theorem dX12_replace_129 : decode cX12_replace 129 = .ok (.putfield 104, 3) := by decide +kernel
theorem dX12_replace_132 : decode cX12_replace 132 = .ok (.iload 6, 2) := by decide +kernel
theorem dX12_replace_134 : decode cX12_replace 134 = .ok (.ireturn, 1) := by decide +kernel
theorem dX12_setPlatform_0 : decode cX12_setPlatform 0 = .ok (.aload_n 0, 1) := by decide +kernel
theorem dX12_setPlatform_1 : decode cX12_setPlatform 1 = .ok (.iload_n 1, 1) := by decide +kernel
theorem dX12_setPlatform_2 : decode cX12_setPlatform 2 = .ok (.iconst 0, 1) := by decide +kernel
theorem dX12_setPlatform_3 : decode cX12_setPlatform 3 = .ok (.iconst 2, 1) := by decide +kernel
theorem dX12_setPlatform_4 : decode cX12_setPlatform 4 = .ok (.invokestatic 75, 3) := by decide +kernel
theorem dX12_setPlatform_7 : decode cX12_setPlatform 7 = .ok (.ifCond .eq 7, 3) := by decide +kernel
theorem dX12_setPlatform_10 : decode cX12_setPlatform 10 = .ok (.iconst 0, 1) := by decide +kernel
theorem dX12_setPlatform_11 : decode cX12_setPlatform 11 = .ok (.goto 4, 3) := by decide +kernel
theorem dX12_setPlatform_14 : decode cX12_setPlatform 14 = .ok (.iconst 1, 1) := by decide +kernel
theorem dX12_setPlatform_15 : decode cX12_setPlatform 15 = .ok (.invokevirtual 101, 3) := by decide +kernel
theorem dX12_setPlatform_18 : decode cX12_setPlatform 18 = .ok (.ifCond .ne 5, 3) := by decide +kernel
theorem dX12_setPlatform_21 : decode cX12_setPlatform 21 = .ok (.iconst 0, 1) := by decide +kernel
theorem dX12_setPlatform_22 : decode cX12_setPlatform 22 = .ok (.ireturn, 1) := by decide +kernel
theorem dX12_setPlatform_23 : decode cX12_setPlatform 23 = .ok (.aload_n 0, 1) := by decide +kernel
theorem dX12_setPlatform_24 : decode cX12_setPlatform 24 = .ok (.getfield 131, 3) := by decide +kernel
theorem dX12_setPlatform_27 : decode cX12_setPlatform 27 = .ok (.istore_n 2, 1) := by decide +kernel
theorem dX12_setPlatform_28 : decode cX12_setPlatform 28 = .ok (.aload_n 0, 1) := by decide +kernel
theorem dX12_setPlatform_29 : decode cX12_setPlatform 29 = .ok (.iload_n 1, 1) := by decide +kernel
theorem dX12_setPlatform_30 : decode cX12_setPlatform 30 = .ok (.putfield 131, 3) := by decide +kernel
theorem dX12_setPlatform_33 : decode cX12_setPlatform 33 = .ok (.aload_n 0, 1) := by decide +kernel
theorem dX12_setPlatform_34 : decode cX12_setPlatform 34 = .ok (.iconst 0, 1) := by decide +kernel
theorem dX12_setPlatform_35 : decode cX12_setPlatform 35 = .ok (.putfield 104, 3) := by decide +kernel
theorem dX12_setPlatform_38 : decode cX12_setPlatform 38 = .ok (.iload_n 2, 1) := by decide +kernel
theorem dX12_setPlatform_39 : decode cX12_setPlatform 39 = .ok (.ireturn, 1) := by decide +kernel
theorem dX12_demandsOf_0 : decode cX12_demandsOf 0 = .ok (.iconst 0, 1) := by decide +kernel
theorem dX12_demandsOf_1 : decode cX12_demandsOf 1 = .ok (.istore_n 2, 1) := by decide +kernel
theorem dX12_demandsOf_2 : decode cX12_demandsOf 2 = .ok (.iconst 0, 1) := by decide +kernel
theorem dX12_demandsOf_3 : decode cX12_demandsOf 3 = .ok (.istore_n 3, 1) := by decide +kernel
theorem dX12_demandsOf_4 : decode cX12_demandsOf 4 = .ok (.iload_n 3, 1) := by decide +kernel
theorem dX12_demandsOf_5 : decode cX12_demandsOf 5 = .ok (.aload_n 0, 1) := by decide +kernel
theorem dX12_demandsOf_6 : decode cX12_demandsOf 6 = .ok (.getfield 125, 3) := by decide +kernel
theorem dX12_demandsOf_9 : decode cX12_demandsOf 9 = .ok (.if_icmp .ge 35, 3) := by decide +kernel
theorem dX12_demandsOf_12 : decode cX12_demandsOf 12 = .ok (.iload_n 2, 1) := by decide +kernel
theorem dX12_demandsOf_13 : decode cX12_demandsOf 13 = .ok (.iload_n 1, 1) := by decide +kernel
theorem dX12_demandsOf_14 : decode cX12_demandsOf 14 = .ok (.aload_n 0, 1) := by decide +kernel
theorem dX12_demandsOf_15 : decode cX12_demandsOf 15 = .ok (.getfield 26, 3) := by decide +kernel
theorem dX12_demandsOf_18 : decode cX12_demandsOf 18 = .ok (.iconst 4, 1) := by decide +kernel
theorem dX12_demandsOf_19 : decode cX12_demandsOf 19 = .ok (.iload_n 3, 1) := by decide +kernel
theorem dX12_demandsOf_20 : decode cX12_demandsOf 20 = .ok (.imul, 1) := by decide +kernel
theorem dX12_demandsOf_21 : decode cX12_demandsOf 21 = .ok (.iaload, 1) := by decide +kernel
theorem dX12_demandsOf_22 : decode cX12_demandsOf 22 = .ok (.ishr, 1) := by decide +kernel
theorem dX12_demandsOf_23 : decode cX12_demandsOf 23 = .ok (.iconst 1, 1) := by decide +kernel
theorem dX12_demandsOf_24 : decode cX12_demandsOf 24 = .ok (.iand, 1) := by decide +kernel
theorem dX12_demandsOf_25 : decode cX12_demandsOf 25 = .ok (.iconst 1, 1) := by decide +kernel
theorem dX12_demandsOf_26 : decode cX12_demandsOf 26 = .ok (.if_icmp .ne 9, 3) := by decide +kernel
theorem dX12_demandsOf_29 : decode cX12_demandsOf 29 = .ok (.iconst 1, 1) := by decide +kernel
theorem dX12_demandsOf_30 : decode cX12_demandsOf 30 = .ok (.iload_n 3, 1) := by decide +kernel
theorem dX12_demandsOf_31 : decode cX12_demandsOf 31 = .ok (.ishl, 1) := by decide +kernel
theorem dX12_demandsOf_32 : decode cX12_demandsOf 32 = .ok (.goto 4, 3) := by decide +kernel
theorem dX12_demandsOf_35 : decode cX12_demandsOf 35 = .ok (.iconst 0, 1) := by decide +kernel
theorem dX12_demandsOf_36 : decode cX12_demandsOf 36 = .ok (.ior, 1) := by decide +kernel
theorem dX12_demandsOf_37 : decode cX12_demandsOf 37 = .ok (.istore_n 2, 1) := by decide +kernel
theorem dX12_demandsOf_38 : decode cX12_demandsOf 38 = .ok (.iinc 3 1, 3) := by decide +kernel
theorem dX12_demandsOf_41 : decode cX12_demandsOf 41 = .ok (.goto (-37), 3) := by decide +kernel
theorem dX12_demandsOf_44 : decode cX12_demandsOf 44 = .ok (.iload_n 2, 1) := by decide +kernel
theorem dX12_demandsOf_45 : decode cX12_demandsOf 45 = .ok (.ireturn, 1) := by decide +kernel
theorem dX12_isDemanded_0 : decode cX12_isDemanded 0 = .ok (.iconst 1, 1) := by decide +kernel
theorem dX12_isDemanded_1 : decode cX12_isDemanded 1 = .ok (.istore_n 3, 1) := by decide +kernel
theorem dX12_isDemanded_2 : decode cX12_isDemanded 2 = .ok (.iconst 0, 1) := by decide +kernel
theorem dX12_isDemanded_3 : decode cX12_isDemanded 3 = .ok (.istore 4, 2) := by decide +kernel
theorem dX12_isDemanded_5 : decode cX12_isDemanded 5 = .ok (.iload 4, 2) := by decide +kernel
theorem dX12_isDemanded_7 : decode cX12_isDemanded 7 = .ok (.aload_n 0, 1) := by decide +kernel
theorem dX12_isDemanded_8 : decode cX12_isDemanded 8 = .ok (.getfield 125, 3) := by decide +kernel
theorem dX12_isDemanded_11 : decode cX12_isDemanded 11 = .ok (.if_icmp .ge 92, 3) := by decide +kernel
theorem dX12_isDemanded_14 : decode cX12_isDemanded 14 = .ok (.aload_n 0, 1) := by decide +kernel
theorem dX12_isDemanded_15 : decode cX12_isDemanded 15 = .ok (.getfield 137, 3) := by decide +kernel
theorem dX12_isDemanded_18 : decode cX12_isDemanded 18 = .ok (.iload 4, 2) := by decide +kernel
theorem dX12_isDemanded_20 : decode cX12_isDemanded 20 = .ok (.ishr, 1) := by decide +kernel
theorem dX12_isDemanded_21 : decode cX12_isDemanded 21 = .ok (.iconst 1, 1) := by decide +kernel
theorem dX12_isDemanded_22 : decode cX12_isDemanded 22 = .ok (.iand, 1) := by decide +kernel
theorem dX12_isDemanded_23 : decode cX12_isDemanded 23 = .ok (.iconst 1, 1) := by decide +kernel
theorem dX12_isDemanded_24 : decode cX12_isDemanded 24 = .ok (.if_icmp .ne 26, 3) := by decide +kernel
theorem dX12_isDemanded_27 : decode cX12_isDemanded 27 = .ok (.aload_n 0, 1) := by decide +kernel
theorem dX12_isDemanded_28 : decode cX12_isDemanded 28 = .ok (.aload_n 0, 1) := by decide +kernel
theorem dX12_isDemanded_29 : decode cX12_isDemanded 29 = .ok (.getfield 26, 3) := by decide +kernel
theorem dX12_isDemanded_32 : decode cX12_isDemanded 32 = .ok (.iconst 4, 1) := by decide +kernel
theorem dX12_isDemanded_33 : decode cX12_isDemanded 33 = .ok (.iload 4, 2) := by decide +kernel
theorem dX12_isDemanded_35 : decode cX12_isDemanded 35 = .ok (.imul, 1) := by decide +kernel
theorem dX12_isDemanded_36 : decode cX12_isDemanded 36 = .ok (.iconst 1, 1) := by decide +kernel
theorem dX12_isDemanded_37 : decode cX12_isDemanded 37 = .ok (.iadd, 1) := by decide +kernel
theorem dX12_isDemanded_38 : decode cX12_isDemanded 38 = .ok (.iaload, 1) := by decide +kernel
theorem dX12_isDemanded_39 : decode cX12_isDemanded 39 = .ok (.invokevirtual 140, 3) := by decide +kernel
theorem dX12_isDemanded_42 : decode cX12_isDemanded 42 = .ok (.iload_n 1, 1) := by decide +kernel
theorem dX12_isDemanded_43 : decode cX12_isDemanded 43 = .ok (.if_icmp .ne 7, 3) := by decide +kernel
theorem dX12_isDemanded_46 : decode cX12_isDemanded 46 = .ok (.iconst 1, 1) := by decide +kernel
theorem dX12_isDemanded_47 : decode cX12_isDemanded 47 = .ok (.goto 4, 3) := by decide +kernel
theorem dX12_isDemanded_50 : decode cX12_isDemanded 50 = .ok (.iconst 0, 1) := by decide +kernel
theorem dX12_isDemanded_51 : decode cX12_isDemanded 51 = .ok (.istore 5, 2) := by decide +kernel
theorem dX12_isDemanded_53 : decode cX12_isDemanded 53 = .ok (.iload_n 3, 1) := by decide +kernel
theorem dX12_isDemanded_54 : decode cX12_isDemanded 54 = .ok (.ifCond .eq 41, 3) := by decide +kernel
theorem dX12_isDemanded_57 : decode cX12_isDemanded 57 = .ok (.iload 5, 2) := by decide +kernel
theorem dX12_isDemanded_59 : decode cX12_isDemanded 59 = .ok (.ifCond .eq 32, 3) := by decide +kernel
theorem dX12_isDemanded_62 : decode cX12_isDemanded 62 = .ok (.iload_n 2, 1) := by decide +kernel
theorem dX12_isDemanded_63 : decode cX12_isDemanded 63 = .ok (.iconst (-1), 1) := by decide +kernel
theorem dX12_isDemanded_64 : decode cX12_isDemanded 64 = .ok (.if_icmp .eq 31, 3) := by decide +kernel
theorem dX12_isDemanded_67 : decode cX12_isDemanded 67 = .ok (.aload_n 0, 1) := by decide +kernel
theorem dX12_isDemanded_68 : decode cX12_isDemanded 68 = .ok (.getfield 22, 3) := by decide +kernel
theorem dX12_isDemanded_71 : decode cX12_isDemanded 71 = .ok (.bipush 24, 2) := by decide +kernel
theorem dX12_isDemanded_73 : decode cX12_isDemanded 73 = .ok (.aload_n 0, 1) := by decide +kernel
theorem dX12_isDemanded_74 : decode cX12_isDemanded 74 = .ok (.getfield 26, 3) := by decide +kernel
theorem dX12_isDemanded_77 : decode cX12_isDemanded 77 = .ok (.iconst 4, 1) := by decide +kernel
theorem dX12_isDemanded_78 : decode cX12_isDemanded 78 = .ok (.iload 4, 2) := by decide +kernel
theorem dX12_isDemanded_80 : decode cX12_isDemanded 80 = .ok (.imul, 1) := by decide +kernel
theorem dX12_isDemanded_81 : decode cX12_isDemanded 81 = .ok (.iconst 2, 1) := by decide +kernel
theorem dX12_isDemanded_82 : decode cX12_isDemanded 82 = .ok (.iadd, 1) := by decide +kernel
theorem dX12_isDemanded_83 : decode cX12_isDemanded 83 = .ok (.iaload, 1) := by decide +kernel
theorem dX12_isDemanded_84 : decode cX12_isDemanded 84 = .ok (.imul, 1) := by decide +kernel
theorem dX12_isDemanded_85 : decode cX12_isDemanded 85 = .ok (.iload_n 2, 1) := by decide +kernel
theorem dX12_isDemanded_86 : decode cX12_isDemanded 86 = .ok (.iadd, 1) := by decide +kernel
theorem dX12_isDemanded_87 : decode cX12_isDemanded 87 = .ok (.baload, 1) := by decide +kernel
theorem dX12_isDemanded_88 : decode cX12_isDemanded 88 = .ok (.ifCond .eq 7, 3) := by decide +kernel
theorem dX12_isDemanded_91 : decode cX12_isDemanded 91 = .ok (.iconst 1, 1) := by decide +kernel
theorem dX12_isDemanded_92 : decode cX12_isDemanded 92 = .ok (.goto 4, 3) := by decide +kernel
theorem dX12_isDemanded_95 : decode cX12_isDemanded 95 = .ok (.iconst 0, 1) := by decide +kernel
theorem dX12_isDemanded_96 : decode cX12_isDemanded 96 = .ok (.istore_n 3, 1) := by decide +kernel
theorem dX12_isDemanded_97 : decode cX12_isDemanded 97 = .ok (.iinc 4 1, 3) := by decide +kernel
theorem dX12_isDemanded_100 : decode cX12_isDemanded 100 = .ok (.goto (-95), 3) := by decide +kernel
theorem dX12_isDemanded_103 : decode cX12_isDemanded 103 = .ok (.iload_n 3, 1) := by decide +kernel
theorem dX12_isDemanded_104 : decode cX12_isDemanded 104 = .ok (.ireturn, 1) := by decide +kernel
theorem dX12_reached_0 : decode cX12_reached 0 = .ok (.iconst 0, 1) := by decide +kernel
theorem dX12_reached_1 : decode cX12_reached 1 = .ok (.istore_n 1, 1) := by decide +kernel
theorem dX12_reached_2 : decode cX12_reached 2 = .ok (.iconst 0, 1) := by decide +kernel
theorem dX12_reached_3 : decode cX12_reached 3 = .ok (.istore_n 2, 1) := by decide +kernel
theorem dX12_reached_4 : decode cX12_reached 4 = .ok (.iload_n 2, 1) := by decide +kernel
theorem dX12_reached_5 : decode cX12_reached 5 = .ok (.aload_n 0, 1) := by decide +kernel
theorem dX12_reached_6 : decode cX12_reached 6 = .ok (.getfield 125, 3) := by decide +kernel
theorem dX12_reached_9 : decode cX12_reached 9 = .ok (.if_icmp .ge 44, 3) := by decide +kernel
theorem dX12_reached_12 : decode cX12_reached 12 = .ok (.iload_n 1, 1) := by decide +kernel
theorem dX12_reached_13 : decode cX12_reached 13 = .ok (.aload_n 0, 1) := by decide +kernel
theorem dX12_reached_14 : decode cX12_reached 14 = .ok (.getfield 137, 3) := by decide +kernel
theorem dX12_reached_17 : decode cX12_reached 17 = .ok (.iload_n 2, 1) := by decide +kernel
theorem dX12_reached_18 : decode cX12_reached 18 = .ok (.ishr, 1) := by decide +kernel
theorem dX12_reached_19 : decode cX12_reached 19 = .ok (.iconst 1, 1) := by decide +kernel
theorem dX12_reached_20 : decode cX12_reached 20 = .ok (.iand, 1) := by decide +kernel
theorem dX12_reached_21 : decode cX12_reached 21 = .ok (.iconst 1, 1) := by decide +kernel
theorem dX12_reached_22 : decode cX12_reached 22 = .ok (.if_icmp .ne 22, 3) := by decide +kernel
theorem dX12_reached_25 : decode cX12_reached 25 = .ok (.iconst 1, 1) := by decide +kernel
theorem dX12_reached_26 : decode cX12_reached 26 = .ok (.aload_n 0, 1) := by decide +kernel
theorem dX12_reached_27 : decode cX12_reached 27 = .ok (.aload_n 0, 1) := by decide +kernel
theorem dX12_reached_28 : decode cX12_reached 28 = .ok (.getfield 26, 3) := by decide +kernel
theorem dX12_reached_31 : decode cX12_reached 31 = .ok (.iconst 4, 1) := by decide +kernel
theorem dX12_reached_32 : decode cX12_reached 32 = .ok (.iload_n 2, 1) := by decide +kernel
theorem dX12_reached_33 : decode cX12_reached 33 = .ok (.imul, 1) := by decide +kernel
theorem dX12_reached_34 : decode cX12_reached 34 = .ok (.iconst 1, 1) := by decide +kernel
theorem dX12_reached_35 : decode cX12_reached 35 = .ok (.iadd, 1) := by decide +kernel
theorem dX12_reached_36 : decode cX12_reached 36 = .ok (.iaload, 1) := by decide +kernel
theorem dX12_reached_37 : decode cX12_reached 37 = .ok (.invokevirtual 140, 3) := by decide +kernel
theorem dX12_reached_40 : decode cX12_reached 40 = .ok (.ishl, 1) := by decide +kernel
theorem dX12_reached_41 : decode cX12_reached 41 = .ok (.goto 4, 3) := by decide +kernel
theorem dX12_reached_44 : decode cX12_reached 44 = .ok (.iconst 0, 1) := by decide +kernel
theorem dX12_reached_45 : decode cX12_reached 45 = .ok (.ior, 1) := by decide +kernel
theorem dX12_reached_46 : decode cX12_reached 46 = .ok (.istore_n 1, 1) := by decide +kernel
theorem dX12_reached_47 : decode cX12_reached 47 = .ok (.iinc 2 1, 3) := by decide +kernel
theorem dX12_reached_50 : decode cX12_reached 50 = .ok (.goto (-46), 3) := by decide +kernel
theorem dX12_reached_53 : decode cX12_reached 53 = .ok (.iconst (-1), 1) := by decide +kernel
theorem dX12_reached_54 : decode cX12_reached 54 = .ok (.istore_n 2, 1) := by decide +kernel
theorem dX12_reached_55 : decode cX12_reached 55 = .ok (.iload_n 2, 1) := by decide +kernel
theorem dX12_reached_56 : decode cX12_reached 56 = .ok (.iload_n 1, 1) := by decide +kernel
theorem dX12_reached_57 : decode cX12_reached 57 = .ok (.if_icmp .eq 86, 3) := by decide +kernel
theorem dX12_reached_60 : decode cX12_reached 60 = .ok (.iload_n 1, 1) := by decide +kernel
theorem dX12_reached_61 : decode cX12_reached 61 = .ok (.istore_n 2, 1) := by decide +kernel
theorem dX12_reached_62 : decode cX12_reached 62 = .ok (.iconst 0, 1) := by decide +kernel
theorem dX12_reached_63 : decode cX12_reached 63 = .ok (.istore_n 3, 1) := by decide +kernel
theorem dX12_reached_64 : decode cX12_reached 64 = .ok (.iload_n 3, 1) := by decide +kernel
theorem dX12_reached_65 : decode cX12_reached 65 = .ok (.aload_n 0, 1) := by decide +kernel
theorem dX12_reached_66 : decode cX12_reached 66 = .ok (.getfield 79, 3) := by decide +kernel
theorem dX12_reached_69 : decode cX12_reached 69 = .ok (.if_icmp .ge 71, 3) := by decide +kernel
theorem dX12_reached_72 : decode cX12_reached 72 = .ok (.iconst 0, 1) := by decide +kernel
theorem dX12_reached_73 : decode cX12_reached 73 = .ok (.istore 4, 2) := by decide +kernel
theorem dX12_reached_75 : decode cX12_reached 75 = .ok (.iload 4, 2) := by decide +kernel
theorem dX12_reached_77 : decode cX12_reached 77 = .ok (.aload_n 0, 1) := by decide +kernel
theorem dX12_reached_78 : decode cX12_reached 78 = .ok (.getfield 7, 3) := by decide +kernel
theorem dX12_reached_81 : decode cX12_reached 81 = .ok (.bipush 9, 2) := by decide +kernel
theorem dX12_reached_83 : decode cX12_reached 83 = .ok (.iload_n 3, 1) := by decide +kernel
theorem dX12_reached_84 : decode cX12_reached 84 = .ok (.imul, 1) := by decide +kernel
theorem dX12_reached_85 : decode cX12_reached 85 = .ok (.bipush 8, 2) := by decide +kernel
theorem dX12_reached_87 : decode cX12_reached 87 = .ok (.iadd, 1) := by decide +kernel
theorem dX12_reached_88 : decode cX12_reached 88 = .ok (.iaload, 1) := by decide +kernel
theorem dX12_reached_89 : decode cX12_reached 89 = .ok (.if_icmp .ge 45, 3) := by decide +kernel
theorem dX12_reached_92 : decode cX12_reached 92 = .ok (.iload_n 1, 1) := by decide +kernel
theorem dX12_reached_93 : decode cX12_reached 93 = .ok (.aload_n 0, 1) := by decide +kernel
theorem dX12_reached_94 : decode cX12_reached 94 = .ok (.iload_n 3, 1) := by decide +kernel
theorem dX12_reached_95 : decode cX12_reached 95 = .ok (.invokevirtual 97, 3) := by decide +kernel
theorem dX12_reached_98 : decode cX12_reached 98 = .ok (.ishr, 1) := by decide +kernel
theorem dX12_reached_99 : decode cX12_reached 99 = .ok (.iconst 1, 1) := by decide +kernel
theorem dX12_reached_100 : decode cX12_reached 100 = .ok (.iand, 1) := by decide +kernel
theorem dX12_reached_101 : decode cX12_reached 101 = .ok (.iconst 1, 1) := by decide +kernel
theorem dX12_reached_102 : decode cX12_reached 102 = .ok (.if_icmp .ne 32, 3) := by decide +kernel
theorem dX12_reached_105 : decode cX12_reached 105 = .ok (.iload_n 1, 1) := by decide +kernel
theorem dX12_reached_106 : decode cX12_reached 106 = .ok (.iconst 1, 1) := by decide +kernel
theorem dX12_reached_107 : decode cX12_reached 107 = .ok (.aload_n 0, 1) := by decide +kernel
theorem dX12_reached_108 : decode cX12_reached 108 = .ok (.aload_n 0, 1) := by decide +kernel
theorem dX12_reached_109 : decode cX12_reached 109 = .ok (.getfield 16, 3) := by decide +kernel
theorem dX12_reached_112 : decode cX12_reached 112 = .ok (.bipush 6, 2) := by decide +kernel
theorem dX12_reached_114 : decode cX12_reached 114 = .ok (.iconst 5, 1) := by decide +kernel
theorem dX12_reached_115 : decode cX12_reached 115 = .ok (.iload_n 3, 1) := by decide +kernel
theorem dX12_reached_116 : decode cX12_reached 116 = .ok (.imul, 1) := by decide +kernel
theorem dX12_reached_117 : decode cX12_reached 117 = .ok (.iload 4, 2) := by decide +kernel
theorem dX12_reached_119 : decode cX12_reached 119 = .ok (.iadd, 1) := by decide +kernel
theorem dX12_reached_120 : decode cX12_reached 120 = .ok (.imul, 1) := by decide +kernel
theorem dX12_reached_121 : decode cX12_reached 121 = .ok (.iaload, 1) := by decide +kernel
theorem dX12_reached_122 : decode cX12_reached 122 = .ok (.invokevirtual 140, 3) := by decide +kernel
theorem dX12_reached_125 : decode cX12_reached 125 = .ok (.ishl, 1) := by decide +kernel
theorem dX12_reached_126 : decode cX12_reached 126 = .ok (.ior, 1) := by decide +kernel
theorem dX12_reached_127 : decode cX12_reached 127 = .ok (.istore_n 1, 1) := by decide +kernel
theorem dX12_reached_128 : decode cX12_reached 128 = .ok (.iinc 4 1, 3) := by decide +kernel
theorem dX12_reached_131 : decode cX12_reached 131 = .ok (.goto (-56), 3) := by decide +kernel
theorem dX12_reached_134 : decode cX12_reached 134 = .ok (.iinc 3 1, 3) := by decide +kernel
theorem dX12_reached_137 : decode cX12_reached 137 = .ok (.goto (-73), 3) := by decide +kernel
theorem dX12_reached_140 : decode cX12_reached 140 = .ok (.goto (-85), 3) := by decide +kernel
theorem dX12_reached_143 : decode cX12_reached 143 = .ok (.iload_n 1, 1) := by decide +kernel
theorem dX12_reached_144 : decode cX12_reached 144 = .ok (.ireturn, 1) := by decide +kernel
theorem dX12_begin_0 : decode cX12_begin 0 = .ok (.aload_n 0, 1) := by decide +kernel
theorem dX12_begin_1 : decode cX12_begin 1 = .ok (.invokevirtual 143, 3) := by decide +kernel
theorem dX12_begin_4 : decode cX12_begin 4 = .ok (.istore_n 1, 1) := by decide +kernel
theorem dX12_begin_5 : decode cX12_begin 5 = .ok (.iconst 0, 1) := by decide +kernel
theorem dX12_begin_6 : decode cX12_begin 6 = .ok (.istore_n 2, 1) := by decide +kernel
theorem dX12_begin_7 : decode cX12_begin 7 = .ok (.iload_n 2, 1) := by decide +kernel
theorem dX12_begin_8 : decode cX12_begin 8 = .ok (.bipush 6, 2) := by decide +kernel
theorem dX12_begin_10 : decode cX12_begin 10 = .ok (.if_icmp .ge 219, 3) := by decide +kernel
theorem dX12_begin_13 : decode cX12_begin 13 = .ok (.iconst 0, 1) := by decide +kernel
theorem dX12_begin_14 : decode cX12_begin 14 = .ok (.istore_n 3, 1) := by decide +kernel
theorem dX12_begin_15 : decode cX12_begin 15 = .ok (.aload_n 0, 1) := by decide +kernel
theorem dX12_begin_16 : decode cX12_begin 16 = .ok (.getfield 62, 3) := by decide +kernel
theorem dX12_begin_19 : decode cX12_begin 19 = .ok (.iconst (-1), 1) := by decide +kernel
theorem dX12_begin_20 : decode cX12_begin 20 = .ok (.if_icmp .eq 19, 3) := by decide +kernel
theorem dX12_begin_23 : decode cX12_begin 23 = .ok (.aload_n 0, 1) := by decide +kernel
theorem dX12_begin_24 : decode cX12_begin 24 = .ok (.aload_n 0, 1) := by decide +kernel
theorem dX12_begin_25 : decode cX12_begin 25 = .ok (.getfield 62, 3) := by decide +kernel
theorem dX12_begin_28 : decode cX12_begin 28 = .ok (.invokevirtual 97, 3) := by decide +kernel
theorem dX12_begin_31 : decode cX12_begin 31 = .ok (.iload_n 2, 1) := by decide +kernel
theorem dX12_begin_32 : decode cX12_begin 32 = .ok (.if_icmp .ne 7, 3) := by decide +kernel
theorem dX12_begin_35 : decode cX12_begin 35 = .ok (.iconst 1, 1) := by decide +kernel
theorem dX12_begin_36 : decode cX12_begin 36 = .ok (.goto 4, 3) := by decide +kernel
theorem dX12_begin_39 : decode cX12_begin 39 = .ok (.iconst 0, 1) := by decide +kernel
theorem dX12_begin_40 : decode cX12_begin 40 = .ok (.istore 4, 2) := by decide +kernel
theorem dX12_begin_42 : decode cX12_begin 42 = .ok (.iconst 0, 1) := by decide +kernel
theorem dX12_begin_43 : decode cX12_begin 43 = .ok (.istore 5, 2) := by decide +kernel
theorem dX12_begin_45 : decode cX12_begin 45 = .ok (.iload 5, 2) := by decide +kernel
theorem dX12_begin_47 : decode cX12_begin 47 = .ok (.aload_n 0, 1) := by decide +kernel
theorem dX12_begin_48 : decode cX12_begin 48 = .ok (.getfield 79, 3) := by decide +kernel
theorem dX12_begin_51 : decode cX12_begin 51 = .ok (.if_icmp .ge 137, 3) := by decide +kernel
theorem dX12_begin_54 : decode cX12_begin 54 = .ok (.iload_n 1, 1) := by decide +kernel
theorem dX12_begin_55 : decode cX12_begin 55 = .ok (.iload_n 2, 1) := by decide +kernel
theorem dX12_begin_56 : decode cX12_begin 56 = .ok (.ishr, 1) := by decide +kernel
theorem dX12_begin_57 : decode cX12_begin 57 = .ok (.iconst 1, 1) := by decide +kernel
theorem dX12_begin_58 : decode cX12_begin 58 = .ok (.iand, 1) := by decide +kernel
theorem dX12_begin_59 : decode cX12_begin 59 = .ok (.iconst 1, 1) := by decide +kernel
theorem dX12_begin_60 : decode cX12_begin 60 = .ok (.if_icmp .ne 128, 3) := by decide +kernel
theorem dX12_begin_63 : decode cX12_begin 63 = .ok (.aload_n 0, 1) := by decide +kernel
theorem dX12_begin_64 : decode cX12_begin 64 = .ok (.iload 5, 2) := by decide +kernel
theorem dX12_begin_66 : decode cX12_begin 66 = .ok (.invokevirtual 97, 3) := by decide +kernel
theorem dX12_begin_69 : decode cX12_begin 69 = .ok (.iload_n 2, 1) := by decide +kernel
theorem dX12_begin_70 : decode cX12_begin 70 = .ok (.if_icmp .ne 112, 3) := by decide +kernel
theorem dX12_begin_73 : decode cX12_begin 73 = .ok (.aload_n 0, 1) := by decide +kernel
theorem dX12_begin_74 : decode cX12_begin 74 = .ok (.iload 5, 2) := by decide +kernel
theorem dX12_begin_76 : decode cX12_begin 76 = .ok (.invokevirtual 134, 3) := by decide +kernel
theorem dX12_begin_79 : decode cX12_begin 79 = .ok (.ifCond .ne 103, 3) := by decide +kernel
theorem dX12_begin_82 : decode cX12_begin 82 = .ok (.iload 4, 2) := by decide +kernel
theorem dX12_begin_84 : decode cX12_begin 84 = .ok (.ifCond .eq 12, 3) := by decide +kernel
theorem dX12_begin_87 : decode cX12_begin 87 = .ok (.aload_n 0, 1) := by decide +kernel
theorem dX12_begin_88 : decode cX12_begin 88 = .ok (.getfield 62, 3) := by decide +kernel
theorem dX12_begin_91 : decode cX12_begin 91 = .ok (.iload 5, 2) := by decide +kernel
theorem dX12_begin_93 : decode cX12_begin 93 = .ok (.if_icmp .ne 89, 3) := by decide +kernel
theorem dX12_begin_96 : decode cX12_begin 96 = .ok (.aload_n 0, 1) := by decide +kernel
theorem dX12_begin_97 : decode cX12_begin 97 = .ok (.iload_n 2, 1) := by decide +kernel
theorem dX12_begin_98 : decode cX12_begin 98 = .ok (.iload 5, 2) := by decide +kernel
theorem dX12_begin_100 : decode cX12_begin 100 = .ok (.invokevirtual 147, 3) := by decide +kernel
theorem dX12_begin_103 : decode cX12_begin 103 = .ok (.ifCond .eq 79, 3) := by decide +kernel
theorem dX12_begin_106 : decode cX12_begin 106 = .ok (.iload_n 3, 1) := by decide +kernel
theorem dX12_begin_107 : decode cX12_begin 107 = .ok (.istore 6, 2) := by decide +kernel
theorem dX12_begin_109 : decode cX12_begin 109 = .ok (.iload 6, 2) := by decide +kernel
theorem dX12_begin_111 : decode cX12_begin 111 = .ok (.ifCond .le 55, 3) := by decide +kernel
theorem dX12_begin_114 : decode cX12_begin 114 = .ok (.aload_n 0, 1) := by decide +kernel
theorem dX12_begin_115 : decode cX12_begin 115 = .ok (.aload_n 0, 1) := by decide +kernel
theorem dX12_begin_116 : decode cX12_begin 116 = .ok (.getfield 53, 3) := by decide +kernel
theorem dX12_begin_119 : decode cX12_begin 119 = .ok (.iconst 5, 1) := by decide +kernel
theorem dX12_begin_120 : decode cX12_begin 120 = .ok (.iload_n 2, 1) := by decide +kernel
theorem dX12_begin_121 : decode cX12_begin 121 = .ok (.imul, 1) := by decide +kernel
theorem dX12_begin_122 : decode cX12_begin 122 = .ok (.iload 6, 2) := by decide +kernel
theorem dX12_begin_124 : decode cX12_begin 124 = .ok (.iadd, 1) := by decide +kernel
theorem dX12_begin_125 : decode cX12_begin 125 = .ok (.iconst 1, 1) := by decide +kernel
theorem dX12_begin_126 : decode cX12_begin 126 = .ok (.isub, 1) := by decide +kernel
theorem dX12_begin_127 : decode cX12_begin 127 = .ok (.iaload, 1) := by decide +kernel
theorem dX12_begin_128 : decode cX12_begin 128 = .ok (.iload 5, 2) := by decide +kernel
theorem dX12_begin_130 : decode cX12_begin 130 = .ok (.invokevirtual 111, 3) := by decide +kernel
theorem dX12_begin_133 : decode cX12_begin 133 = .ok (.ifCond .ge 33, 3) := by decide +kernel
theorem dX12_begin_136 : decode cX12_begin 136 = .ok (.aload_n 0, 1) := by decide +kernel
theorem dX12_begin_137 : decode cX12_begin 137 = .ok (.getfield 53, 3) := by decide +kernel
theorem dX12_begin_140 : decode cX12_begin 140 = .ok (.iconst 5, 1) := by decide +kernel
theorem dX12_begin_141 : decode cX12_begin 141 = .ok (.iload_n 2, 1) := by decide +kernel
theorem dX12_begin_142 : decode cX12_begin 142 = .ok (.imul, 1) := by decide +kernel
theorem dX12_begin_143 : decode cX12_begin 143 = .ok (.iload 6, 2) := by decide +kernel
theorem dX12_begin_145 : decode cX12_begin 145 = .ok (.iadd, 1) := by decide +kernel
theorem dX12_begin_146 : decode cX12_begin 146 = .ok (.aload_n 0, 1) := by decide +kernel
theorem dX12_begin_147 : decode cX12_begin 147 = .ok (.getfield 53, 3) := by decide +kernel
theorem dX12_begin_150 : decode cX12_begin 150 = .ok (.iconst 5, 1) := by decide +kernel
theorem dX12_begin_151 : decode cX12_begin 151 = .ok (.iload_n 2, 1) := by decide +kernel
theorem dX12_begin_152 : decode cX12_begin 152 = .ok (.imul, 1) := by decide +kernel
theorem dX12_begin_153 : decode cX12_begin 153 = .ok (.iload 6, 2) := by decide +kernel
theorem dX12_begin_155 : decode cX12_begin 155 = .ok (.iadd, 1) := by decide +kernel
theorem dX12_begin_156 : decode cX12_begin 156 = .ok (.iconst 1, 1) := by decide +kernel
theorem dX12_begin_157 : decode cX12_begin 157 = .ok (.isub, 1) := by decide +kernel
theorem dX12_begin_158 : decode cX12_begin 158 = .ok (.iaload, 1) := by decide +kernel
theorem dX12_begin_159 : decode cX12_begin 159 = .ok (.iastore, 1) := by decide +kernel
theorem dX12_begin_160 : decode cX12_begin 160 = .ok (.iinc 6 (-1), 3) := by decide +kernel
theorem dX12_begin_163 : decode cX12_begin 163 = .ok (.goto (-54), 3) := by decide +kernel
theorem dX12_begin_166 : decode cX12_begin 166 = .ok (.aload_n 0, 1) := by decide +kernel
theorem dX12_begin_167 : decode cX12_begin 167 = .ok (.getfield 53, 3) := by decide +kernel
theorem dX12_begin_170 : decode cX12_begin 170 = .ok (.iconst 5, 1) := by decide +kernel
theorem dX12_begin_171 : decode cX12_begin 171 = .ok (.iload_n 2, 1) := by decide +kernel
theorem dX12_begin_172 : decode cX12_begin 172 = .ok (.imul, 1) := by decide +kernel
theorem dX12_begin_173 : decode cX12_begin 173 = .ok (.iload 6, 2) := by decide +kernel
theorem dX12_begin_175 : decode cX12_begin 175 = .ok (.iadd, 1) := by decide +kernel
theorem dX12_begin_176 : decode cX12_begin 176 = .ok (.iload 5, 2) := by decide +kernel
theorem dX12_begin_178 : decode cX12_begin 178 = .ok (.iastore, 1) := by decide +kernel
theorem dX12_begin_179 : decode cX12_begin 179 = .ok (.iinc 3 1, 3) := by decide +kernel
theorem dX12_begin_182 : decode cX12_begin 182 = .ok (.iinc 5 1, 3) := by decide +kernel
theorem dX12_begin_185 : decode cX12_begin 185 = .ok (.goto (-140), 3) := by decide +kernel
theorem dX12_begin_188 : decode cX12_begin 188 = .ok (.iload 4, 2) := by decide +kernel
theorem dX12_begin_190 : decode cX12_begin 190 = .ok (.ifCond .ne 26, 3) := by decide +kernel
theorem dX12_begin_193 : decode cX12_begin 193 = .ok (.aload_n 0, 1) := by decide +kernel
theorem dX12_begin_194 : decode cX12_begin 194 = .ok (.iload_n 2, 1) := by decide +kernel
theorem dX12_begin_195 : decode cX12_begin 195 = .ok (.iconst (-1), 1) := by decide +kernel
theorem dX12_begin_196 : decode cX12_begin 196 = .ok (.invokevirtual 147, 3) := by decide +kernel
theorem dX12_begin_199 : decode cX12_begin 199 = .ok (.ifCond .eq 17, 3) := by decide +kernel
theorem dX12_begin_202 : decode cX12_begin 202 = .ok (.aload_n 0, 1) := by decide +kernel
theorem dX12_begin_203 : decode cX12_begin 203 = .ok (.getfield 53, 3) := by decide +kernel
theorem dX12_begin_206 : decode cX12_begin 206 = .ok (.iconst 5, 1) := by decide +kernel
theorem dX12_begin_207 : decode cX12_begin 207 = .ok (.iload_n 2, 1) := by decide +kernel
theorem dX12_begin_208 : decode cX12_begin 208 = .ok (.imul, 1) := by decide +kernel
theorem dX12_begin_209 : decode cX12_begin 209 = .ok (.iload_n 3, 1) := by decide +kernel
theorem dX12_begin_210 : decode cX12_begin 210 = .ok (.iadd, 1) := by decide +kernel
theorem dX12_begin_211 : decode cX12_begin 211 = .ok (.iconst (-1), 1) := by decide +kernel
theorem dX12_begin_212 : decode cX12_begin 212 = .ok (.iastore, 1) := by decide +kernel
theorem dX12_begin_213 : decode cX12_begin 213 = .ok (.iinc 3 1, 3) := by decide +kernel
theorem dX12_begin_216 : decode cX12_begin 216 = .ok (.aload_n 0, 1) := by decide +kernel
theorem dX12_begin_217 : decode cX12_begin 217 = .ok (.getfield 56, 3) := by decide +kernel
theorem dX12_begin_220 : decode cX12_begin 220 = .ok (.iload_n 2, 1) := by decide +kernel
theorem dX12_begin_221 : decode cX12_begin 221 = .ok (.iload_n 3, 1) := by decide +kernel
theorem dX12_begin_222 : decode cX12_begin 222 = .ok (.iastore, 1) := by decide +kernel
theorem dX12_begin_223 : decode cX12_begin 223 = .ok (.iinc 2 1, 3) := by decide +kernel
theorem dX12_begin_226 : decode cX12_begin 226 = .ok (.goto (-219), 3) := by decide +kernel
theorem dX12_begin_229 : decode cX12_begin 229 = .ok (.return_, 1) := by decide +kernel
theorem dX12_isBroken_0 : decode cX12_isBroken 0 = .ok (.aload_n 0, 1) := by decide +kernel
theorem dX12_isBroken_1 : decode cX12_isBroken 1 = .ok (.getfield 44, 3) := by decide +kernel
theorem dX12_isBroken_4 : decode cX12_isBroken 4 = .ok (.iload_n 1, 1) := by decide +kernel
theorem dX12_isBroken_5 : decode cX12_isBroken 5 = .ok (.iaload, 1) := by decide +kernel
theorem dX12_isBroken_6 : decode cX12_isBroken 6 = .ok (.istore 4, 2) := by decide +kernel
theorem dX12_isBroken_8 : decode cX12_isBroken 8 = .ok (.iconst 0, 1) := by decide +kernel
theorem dX12_isBroken_9 : decode cX12_isBroken 9 = .ok (.istore 5, 2) := by decide +kernel
theorem dX12_isBroken_11 : decode cX12_isBroken 11 = .ok (.iload 4, 2) := by decide +kernel
theorem dX12_isBroken_13 : decode cX12_isBroken 13 = .ok (.iconst (-1), 1) := by decide +kernel
theorem dX12_isBroken_14 : decode cX12_isBroken 14 = .ok (.if_icmp .eq 151, 3) := by decide +kernel
theorem dX12_isBroken_17 : decode cX12_isBroken 17 = .ok (.iload 5, 2) := by decide +kernel
theorem dX12_isBroken_19 : decode cX12_isBroken 19 = .ok (.aload_n 0, 1) := by decide +kernel
theorem dX12_isBroken_20 : decode cX12_isBroken 20 = .ok (.getfield 7, 3) := by decide +kernel
theorem dX12_isBroken_23 : decode cX12_isBroken 23 = .ok (.bipush 9, 2) := by decide +kernel
theorem dX12_isBroken_25 : decode cX12_isBroken 25 = .ok (.iload 4, 2) := by decide +kernel
theorem dX12_isBroken_27 : decode cX12_isBroken 27 = .ok (.imul, 1) := by decide +kernel
theorem dX12_isBroken_28 : decode cX12_isBroken 28 = .ok (.bipush 8, 2) := by decide +kernel
theorem dX12_isBroken_30 : decode cX12_isBroken 30 = .ok (.iadd, 1) := by decide +kernel
theorem dX12_isBroken_31 : decode cX12_isBroken 31 = .ok (.iaload, 1) := by decide +kernel
theorem dX12_isBroken_32 : decode cX12_isBroken 32 = .ok (.if_icmp .ge 133, 3) := by decide +kernel
theorem dX12_isBroken_35 : decode cX12_isBroken 35 = .ok (.bipush 6, 2) := by decide +kernel
theorem dX12_isBroken_37 : decode cX12_isBroken 37 = .ok (.iconst 5, 1) := by decide +kernel
theorem dX12_isBroken_38 : decode cX12_isBroken 38 = .ok (.iload 4, 2) := by decide +kernel
theorem dX12_isBroken_40 : decode cX12_isBroken 40 = .ok (.imul, 1) := by decide +kernel
theorem dX12_isBroken_41 : decode cX12_isBroken 41 = .ok (.iload 5, 2) := by decide +kernel
theorem dX12_isBroken_43 : decode cX12_isBroken 43 = .ok (.iadd, 1) := by decide +kernel
theorem dX12_isBroken_44 : decode cX12_isBroken 44 = .ok (.imul, 1) := by decide +kernel
theorem dX12_isBroken_45 : decode cX12_isBroken 45 = .ok (.istore 6, 2) := by decide +kernel
theorem dX12_isBroken_47 : decode cX12_isBroken 47 = .ok (.aload_n 0, 1) := by decide +kernel
theorem dX12_isBroken_48 : decode cX12_isBroken 48 = .ok (.aload_n 0, 1) := by decide +kernel
theorem dX12_isBroken_49 : decode cX12_isBroken 49 = .ok (.getfield 16, 3) := by decide +kernel
theorem dX12_isBroken_52 : decode cX12_isBroken 52 = .ok (.iload 6, 2) := by decide +kernel
theorem dX12_isBroken_54 : decode cX12_isBroken 54 = .ok (.iaload, 1) := by decide +kernel
theorem dX12_isBroken_55 : decode cX12_isBroken 55 = .ok (.invokevirtual 140, 3) := by decide +kernel
theorem dX12_isBroken_58 : decode cX12_isBroken 58 = .ok (.istore 7, 2) := by decide +kernel
theorem dX12_isBroken_60 : decode cX12_isBroken 60 = .ok (.iload 7, 2) := by decide +kernel
theorem dX12_isBroken_62 : decode cX12_isBroken 62 = .ok (.iload_n 2, 1) := by decide +kernel
theorem dX12_isBroken_63 : decode cX12_isBroken 63 = .ok (.iload_n 3, 1) := by decide +kernel
theorem dX12_isBroken_64 : decode cX12_isBroken 64 = .ok (.invokestatic 75, 3) := by decide +kernel
theorem dX12_isBroken_67 : decode cX12_isBroken 67 = .ok (.ifCond .eq 92, 3) := by decide +kernel
theorem dX12_isBroken_70 : decode cX12_isBroken 70 = .ok (.aload_n 0, 1) := by decide +kernel
theorem dX12_isBroken_71 : decode cX12_isBroken 71 = .ok (.getfield 16, 3) := by decide +kernel
theorem dX12_isBroken_74 : decode cX12_isBroken 74 = .ok (.iload 6, 2) := by decide +kernel
theorem dX12_isBroken_76 : decode cX12_isBroken 76 = .ok (.iconst 3, 1) := by decide +kernel
theorem dX12_isBroken_77 : decode cX12_isBroken 77 = .ok (.iadd, 1) := by decide +kernel
theorem dX12_isBroken_78 : decode cX12_isBroken 78 = .ok (.iaload, 1) := by decide +kernel
theorem dX12_isBroken_79 : decode cX12_isBroken 79 = .ok (.iconst (-1), 1) := by decide +kernel
theorem dX12_isBroken_80 : decode cX12_isBroken 80 = .ok (.if_icmp .ne 79, 3) := by decide +kernel
theorem dX12_isBroken_83 : decode cX12_isBroken 83 = .ok (.aload_n 0, 1) := by decide +kernel
theorem dX12_isBroken_84 : decode cX12_isBroken 84 = .ok (.getfield 16, 3) := by decide +kernel
theorem dX12_isBroken_87 : decode cX12_isBroken 87 = .ok (.iload 6, 2) := by decide +kernel
theorem dX12_isBroken_89 : decode cX12_isBroken 89 = .ok (.iconst 4, 1) := by decide +kernel
theorem dX12_isBroken_90 : decode cX12_isBroken 90 = .ok (.iadd, 1) := by decide +kernel
theorem dX12_isBroken_91 : decode cX12_isBroken 91 = .ok (.iaload, 1) := by decide +kernel
theorem dX12_isBroken_92 : decode cX12_isBroken 92 = .ok (.aload_n 0, 1) := by decide +kernel
theorem dX12_isBroken_93 : decode cX12_isBroken 93 = .ok (.getfield 131, 3) := by decide +kernel
theorem dX12_isBroken_96 : decode cX12_isBroken 96 = .ok (.ishr, 1) := by decide +kernel
theorem dX12_isBroken_97 : decode cX12_isBroken 97 = .ok (.iconst 1, 1) := by decide +kernel
theorem dX12_isBroken_98 : decode cX12_isBroken 98 = .ok (.iand, 1) := by decide +kernel
theorem dX12_isBroken_99 : decode cX12_isBroken 99 = .ok (.iconst 1, 1) := by decide +kernel
theorem dX12_isBroken_100 : decode cX12_isBroken 100 = .ok (.if_icmp .ne 59, 3) := by decide +kernel
theorem dX12_isBroken_103 : decode cX12_isBroken 103 = .ok (.aload_n 0, 1) := by decide +kernel
theorem dX12_isBroken_104 : decode cX12_isBroken 104 = .ok (.getfield 44, 3) := by decide +kernel
theorem dX12_isBroken_107 : decode cX12_isBroken 107 = .ok (.iload 7, 2) := by decide +kernel
theorem dX12_isBroken_109 : decode cX12_isBroken 109 = .ok (.iaload, 1) := by decide +kernel
theorem dX12_isBroken_110 : decode cX12_isBroken 110 = .ok (.istore 8, 2) := by decide +kernel
theorem dX12_isBroken_112 : decode cX12_isBroken 112 = .ok (.iload 8, 2) := by decide +kernel
theorem dX12_isBroken_114 : decode cX12_isBroken 114 = .ok (.iconst (-1), 1) := by decide +kernel
theorem dX12_isBroken_115 : decode cX12_isBroken 115 = .ok (.if_icmp .ne 19, 3) := by decide +kernel
theorem dX12_isBroken_118 : decode cX12_isBroken 118 = .ok (.aload_n 0, 1) := by decide +kernel
theorem dX12_isBroken_119 : decode cX12_isBroken 119 = .ok (.getfield 16, 3) := by decide +kernel
theorem dX12_isBroken_122 : decode cX12_isBroken 122 = .ok (.iload 6, 2) := by decide +kernel
theorem dX12_isBroken_124 : decode cX12_isBroken 124 = .ok (.iconst 2, 1) := by decide +kernel
theorem dX12_isBroken_125 : decode cX12_isBroken 125 = .ok (.iadd, 1) := by decide +kernel
theorem dX12_isBroken_126 : decode cX12_isBroken 126 = .ok (.iaload, 1) := by decide +kernel
theorem dX12_isBroken_127 : decode cX12_isBroken 127 = .ok (.iconst 1, 1) := by decide +kernel
theorem dX12_isBroken_128 : decode cX12_isBroken 128 = .ok (.if_icmp .eq 31, 3) := by decide +kernel
theorem dX12_isBroken_131 : decode cX12_isBroken 131 = .ok (.goto 26, 3) := by decide +kernel
theorem dX12_isBroken_134 : decode cX12_isBroken 134 = .ok (.aload_n 0, 1) := by decide +kernel
theorem dX12_isBroken_135 : decode cX12_isBroken 135 = .ok (.getfield 22, 3) := by decide +kernel
theorem dX12_isBroken_138 : decode cX12_isBroken 138 = .ok (.bipush 24, 2) := by decide +kernel
theorem dX12_isBroken_140 : decode cX12_isBroken 140 = .ok (.aload_n 0, 1) := by decide +kernel
theorem dX12_isBroken_141 : decode cX12_isBroken 141 = .ok (.getfield 16, 3) := by decide +kernel
theorem dX12_isBroken_144 : decode cX12_isBroken 144 = .ok (.iload 6, 2) := by decide +kernel
theorem dX12_isBroken_146 : decode cX12_isBroken 146 = .ok (.iconst 1, 1) := by decide +kernel
theorem dX12_isBroken_147 : decode cX12_isBroken 147 = .ok (.iadd, 1) := by decide +kernel
theorem dX12_isBroken_148 : decode cX12_isBroken 148 = .ok (.iaload, 1) := by decide +kernel
theorem dX12_isBroken_149 : decode cX12_isBroken 149 = .ok (.imul, 1) := by decide +kernel
theorem dX12_isBroken_150 : decode cX12_isBroken 150 = .ok (.iload 8, 2) := by decide +kernel
theorem dX12_isBroken_152 : decode cX12_isBroken 152 = .ok (.iadd, 1) := by decide +kernel
theorem dX12_isBroken_153 : decode cX12_isBroken 153 = .ok (.baload, 1) := by decide +kernel
theorem dX12_isBroken_154 : decode cX12_isBroken 154 = .ok (.ifCond .ne 5, 3) := by decide +kernel
theorem dX12_isBroken_157 : decode cX12_isBroken 157 = .ok (.iconst 1, 1) := by decide +kernel
theorem dX12_isBroken_158 : decode cX12_isBroken 158 = .ok (.ireturn, 1) := by decide +kernel
theorem dX12_isBroken_159 : decode cX12_isBroken 159 = .ok (.iinc 5 1, 3) := by decide +kernel
theorem dX12_isBroken_162 : decode cX12_isBroken 162 = .ok (.goto (-151), 3) := by decide +kernel
theorem dX12_isBroken_165 : decode cX12_isBroken 165 = .ok (.iconst 0, 1) := by decide +kernel
theorem dX12_isBroken_166 : decode cX12_isBroken 166 = .ok (.ireturn, 1) := by decide +kernel
theorem dX12_fitsSoFar_0 : decode cX12_fitsSoFar 0 = .ok (.aload_n 0, 1) := by decide +kernel
theorem dX12_fitsSoFar_1 : decode cX12_fitsSoFar 1 = .ok (.iload_n 1, 1) := by decide +kernel
theorem dX12_fitsSoFar_2 : decode cX12_fitsSoFar 2 = .ok (.iconst 0, 1) := by decide +kernel
theorem dX12_fitsSoFar_3 : decode cX12_fitsSoFar 3 = .ok (.iload_n 1, 1) := by decide +kernel
theorem dX12_fitsSoFar_4 : decode cX12_fitsSoFar 4 = .ok (.invokevirtual 150, 3) := by decide +kernel
theorem dX12_fitsSoFar_7 : decode cX12_fitsSoFar 7 = .ok (.ifCond .ne 7, 3) := by decide +kernel
theorem dX12_fitsSoFar_10 : decode cX12_fitsSoFar 10 = .ok (.iconst 1, 1) := by decide +kernel
theorem dX12_fitsSoFar_11 : decode cX12_fitsSoFar 11 = .ok (.goto 4, 3) := by decide +kernel
theorem dX12_fitsSoFar_14 : decode cX12_fitsSoFar 14 = .ok (.iconst 0, 1) := by decide +kernel
theorem dX12_fitsSoFar_15 : decode cX12_fitsSoFar 15 = .ok (.istore_n 2, 1) := by decide +kernel
theorem dX12_fitsSoFar_16 : decode cX12_fitsSoFar 16 = .ok (.iconst 0, 1) := by decide +kernel
theorem dX12_fitsSoFar_17 : decode cX12_fitsSoFar 17 = .ok (.istore_n 3, 1) := by decide +kernel
theorem dX12_fitsSoFar_18 : decode cX12_fitsSoFar 18 = .ok (.iload_n 3, 1) := by decide +kernel
theorem dX12_fitsSoFar_19 : decode cX12_fitsSoFar 19 = .ok (.iload_n 1, 1) := by decide +kernel
theorem dX12_fitsSoFar_20 : decode cX12_fitsSoFar 20 = .ok (.if_icmp .ge 29, 3) := by decide +kernel
theorem dX12_fitsSoFar_23 : decode cX12_fitsSoFar 23 = .ok (.iload_n 2, 1) := by decide +kernel
theorem dX12_fitsSoFar_24 : decode cX12_fitsSoFar 24 = .ok (.ifCond .eq 25, 3) := by decide +kernel
theorem dX12_fitsSoFar_27 : decode cX12_fitsSoFar 27 = .ok (.aload_n 0, 1) := by decide +kernel
theorem dX12_fitsSoFar_28 : decode cX12_fitsSoFar 28 = .ok (.iload_n 3, 1) := by decide +kernel
theorem dX12_fitsSoFar_29 : decode cX12_fitsSoFar 29 = .ok (.iload_n 1, 1) := by decide +kernel
theorem dX12_fitsSoFar_30 : decode cX12_fitsSoFar 30 = .ok (.iload_n 1, 1) := by decide +kernel
theorem dX12_fitsSoFar_31 : decode cX12_fitsSoFar 31 = .ok (.invokevirtual 150, 3) := by decide +kernel
theorem dX12_fitsSoFar_34 : decode cX12_fitsSoFar 34 = .ok (.ifCond .ne 7, 3) := by decide +kernel
theorem dX12_fitsSoFar_37 : decode cX12_fitsSoFar 37 = .ok (.iconst 1, 1) := by decide +kernel
theorem dX12_fitsSoFar_38 : decode cX12_fitsSoFar 38 = .ok (.goto 4, 3) := by decide +kernel
theorem dX12_fitsSoFar_41 : decode cX12_fitsSoFar 41 = .ok (.iconst 0, 1) := by decide +kernel
theorem dX12_fitsSoFar_42 : decode cX12_fitsSoFar 42 = .ok (.istore_n 2, 1) := by decide +kernel
theorem dX12_fitsSoFar_43 : decode cX12_fitsSoFar 43 = .ok (.iinc 3 1, 3) := by decide +kernel
theorem dX12_fitsSoFar_46 : decode cX12_fitsSoFar 46 = .ok (.goto (-28), 3) := by decide +kernel
theorem dX12_fitsSoFar_49 : decode cX12_fitsSoFar 49 = .ok (.iload_n 2, 1) := by decide +kernel
theorem dX12_fitsSoFar_50 : decode cX12_fitsSoFar 50 = .ok (.ireturn, 1) := by decide +kernel
theorem dX12_goOn_0 : decode cX12_goOn 0 = .ok (.iload_n 1, 1) := by decide +kernel
theorem dX12_goOn_1 : decode cX12_goOn 1 = .ok (.ifCond .eq 7, 3) := by decide +kernel
theorem dX12_goOn_4 : decode cX12_goOn 4 = .ok (.iconst 0, 1) := by decide +kernel
theorem dX12_goOn_5 : decode cX12_goOn 5 = .ok (.goto 4, 3) := by decide +kernel
theorem dX12_goOn_8 : decode cX12_goOn 8 = .ok (.iconst 5, 1) := by decide +kernel
theorem dX12_goOn_9 : decode cX12_goOn 9 = .ok (.istore_n 2, 1) := by decide +kernel
theorem dX12_goOn_10 : decode cX12_goOn 10 = .ok (.iload_n 1, 1) := by decide +kernel
theorem dX12_goOn_11 : decode cX12_goOn 11 = .ok (.ifCond .eq 10, 3) := by decide +kernel
theorem dX12_goOn_14 : decode cX12_goOn 14 = .ok (.aload_n 0, 1) := by decide +kernel
theorem dX12_goOn_15 : decode cX12_goOn 15 = .ok (.getfield 59, 3) := by decide +kernel
theorem dX12_goOn_18 : decode cX12_goOn 18 = .ok (.iconst 0, 1) := by decide +kernel
theorem dX12_goOn_19 : decode cX12_goOn 19 = .ok (.iconst (-1), 1) := by decide +kernel
theorem dX12_goOn_20 : decode cX12_goOn 20 = .ok (.iastore, 1) := by decide +kernel
theorem dX12_goOn_21 : decode cX12_goOn 21 = .ok (.iload_n 2, 1) := by decide +kernel
theorem dX12_goOn_22 : decode cX12_goOn 22 = .ok (.ifCond .lt 83, 3) := by decide +kernel
theorem dX12_goOn_25 : decode cX12_goOn 25 = .ok (.aload_n 0, 1) := by decide +kernel
theorem dX12_goOn_26 : decode cX12_goOn 26 = .ok (.getfield 59, 3) := by decide +kernel
theorem dX12_goOn_29 : decode cX12_goOn 29 = .ok (.iload_n 2, 1) := by decide +kernel
theorem dX12_goOn_30 : decode cX12_goOn 30 = .ok (.dup2, 1) := by decide +kernel
theorem dX12_goOn_31 : decode cX12_goOn 31 = .ok (.iaload, 1) := by decide +kernel
theorem dX12_goOn_32 : decode cX12_goOn 32 = .ok (.iconst 1, 1) := by decide +kernel
theorem dX12_goOn_33 : decode cX12_goOn 33 = .ok (.iadd, 1) := by decide +kernel
theorem dX12_goOn_34 : decode cX12_goOn 34 = .ok (.iastore, 1) := by decide +kernel
theorem dX12_goOn_35 : decode cX12_goOn 35 = .ok (.aload_n 0, 1) := by decide +kernel
theorem dX12_goOn_36 : decode cX12_goOn 36 = .ok (.getfield 59, 3) := by decide +kernel
theorem dX12_goOn_39 : decode cX12_goOn 39 = .ok (.iload_n 2, 1) := by decide +kernel
theorem dX12_goOn_40 : decode cX12_goOn 40 = .ok (.iaload, 1) := by decide +kernel
theorem dX12_goOn_41 : decode cX12_goOn 41 = .ok (.aload_n 0, 1) := by decide +kernel
theorem dX12_goOn_42 : decode cX12_goOn 42 = .ok (.getfield 56, 3) := by decide +kernel
theorem dX12_goOn_45 : decode cX12_goOn 45 = .ok (.iload_n 2, 1) := by decide +kernel
theorem dX12_goOn_46 : decode cX12_goOn 46 = .ok (.iaload, 1) := by decide +kernel
theorem dX12_goOn_47 : decode cX12_goOn 47 = .ok (.if_icmp .lt 9, 3) := by decide +kernel
theorem dX12_goOn_50 : decode cX12_goOn 50 = .ok (.iinc 2 (-1), 3) := by decide +kernel
theorem dX12_goOn_53 : decode cX12_goOn 53 = .ok (.goto (-32), 3) := by decide +kernel
theorem dX12_goOn_56 : decode cX12_goOn 56 = .ok (.aload_n 0, 1) := by decide +kernel
theorem dX12_goOn_57 : decode cX12_goOn 57 = .ok (.getfield 44, 3) := by decide +kernel
theorem dX12_goOn_60 : decode cX12_goOn 60 = .ok (.iload_n 2, 1) := by decide +kernel
theorem dX12_goOn_61 : decode cX12_goOn 61 = .ok (.aload_n 0, 1) := by decide +kernel
theorem dX12_goOn_62 : decode cX12_goOn 62 = .ok (.getfield 53, 3) := by decide +kernel
theorem dX12_goOn_65 : decode cX12_goOn 65 = .ok (.iconst 5, 1) := by decide +kernel
theorem dX12_goOn_66 : decode cX12_goOn 66 = .ok (.iload_n 2, 1) := by decide +kernel
theorem dX12_goOn_67 : decode cX12_goOn 67 = .ok (.imul, 1) := by decide +kernel
theorem dX12_goOn_68 : decode cX12_goOn 68 = .ok (.aload_n 0, 1) := by decide +kernel
theorem dX12_goOn_69 : decode cX12_goOn 69 = .ok (.getfield 59, 3) := by decide +kernel
theorem dX12_goOn_72 : decode cX12_goOn 72 = .ok (.iload_n 2, 1) := by decide +kernel
theorem dX12_goOn_73 : decode cX12_goOn 73 = .ok (.iaload, 1) := by decide +kernel
theorem dX12_goOn_74 : decode cX12_goOn 74 = .ok (.iadd, 1) := by decide +kernel
theorem dX12_goOn_75 : decode cX12_goOn 75 = .ok (.iaload, 1) := by decide +kernel
theorem dX12_goOn_76 : decode cX12_goOn 76 = .ok (.iastore, 1) := by decide +kernel
theorem dX12_goOn_77 : decode cX12_goOn 77 = .ok (.aload_n 0, 1) := by decide +kernel
theorem dX12_goOn_78 : decode cX12_goOn 78 = .ok (.iload_n 2, 1) := by decide +kernel
theorem dX12_goOn_79 : decode cX12_goOn 79 = .ok (.invokevirtual 153, 3) := by decide +kernel
theorem dX12_goOn_82 : decode cX12_goOn 82 = .ok (.ifCond .eq (-61), 3) := by decide +kernel
theorem dX12_goOn_85 : decode cX12_goOn 85 = .ok (.iload_n 2, 1) := by decide +kernel
theorem dX12_goOn_86 : decode cX12_goOn 86 = .ok (.iconst 5, 1) := by decide +kernel
theorem dX12_goOn_87 : decode cX12_goOn 87 = .ok (.if_icmp .ne 5, 3) := by decide +kernel
theorem dX12_goOn_90 : decode cX12_goOn 90 = .ok (.iconst 1, 1) := by decide +kernel
theorem dX12_goOn_91 : decode cX12_goOn 91 = .ok (.ireturn, 1) := by decide +kernel
theorem dX12_goOn_92 : decode cX12_goOn 92 = .ok (.iinc 2 1, 3) := by decide +kernel
theorem dX12_goOn_95 : decode cX12_goOn 95 = .ok (.aload_n 0, 1) := by decide +kernel
theorem dX12_goOn_96 : decode cX12_goOn 96 = .ok (.getfield 59, 3) := by decide +kernel
theorem dX12_goOn_99 : decode cX12_goOn 99 = .ok (.iload_n 2, 1) := by decide +kernel
theorem dX12_goOn_100 : decode cX12_goOn 100 = .ok (.iconst (-1), 1) := by decide +kernel
theorem dX12_goOn_101 : decode cX12_goOn 101 = .ok (.iastore, 1) := by decide +kernel
theorem dX12_goOn_102 : decode cX12_goOn 102 = .ok (.goto (-81), 3) := by decide +kernel
theorem dX12_goOn_105 : decode cX12_goOn 105 = .ok (.iconst 0, 1) := by decide +kernel
theorem dX12_goOn_106 : decode cX12_goOn 106 = .ok (.ireturn, 1) := by decide +kernel
theorem dX12_areDemandsRight_0 : decode cX12_areDemandsRight 0 = .ok (.iconst 0, 1) := by decide +kernel
theorem dX12_areDemandsRight_1 : decode cX12_areDemandsRight 1 = .ok (.istore_n 1, 1) := by decide +kernel
theorem dX12_areDemandsRight_2 : decode cX12_areDemandsRight 2 = .ok (.iload_n 1, 1) := by decide +kernel
theorem dX12_areDemandsRight_3 : decode cX12_areDemandsRight 3 = .ok (.bipush 6, 2) := by decide +kernel
theorem dX12_areDemandsRight_5 : decode cX12_areDemandsRight 5 = .ok (.if_icmp .ge 23, 3) := by decide +kernel
theorem dX12_areDemandsRight_8 : decode cX12_areDemandsRight 8 = .ok (.aload_n 0, 1) := by decide +kernel
theorem dX12_areDemandsRight_9 : decode cX12_areDemandsRight 9 = .ok (.getfield 47, 3) := by decide +kernel
theorem dX12_areDemandsRight_12 : decode cX12_areDemandsRight 12 = .ok (.iload_n 1, 1) := by decide +kernel
theorem dX12_areDemandsRight_13 : decode cX12_areDemandsRight 13 = .ok (.iconst 0, 1) := by decide +kernel
theorem dX12_areDemandsRight_14 : decode cX12_areDemandsRight 14 = .ok (.iastore, 1) := by decide +kernel
theorem dX12_areDemandsRight_15 : decode cX12_areDemandsRight 15 = .ok (.aload_n 0, 1) := by decide +kernel
theorem dX12_areDemandsRight_16 : decode cX12_areDemandsRight 16 = .ok (.getfield 50, 3) := by decide +kernel
theorem dX12_areDemandsRight_19 : decode cX12_areDemandsRight 19 = .ok (.iload_n 1, 1) := by decide +kernel
theorem dX12_areDemandsRight_20 : decode cX12_areDemandsRight 20 = .ok (.iconst 0, 1) := by decide +kernel
theorem dX12_areDemandsRight_21 : decode cX12_areDemandsRight 21 = .ok (.bastore, 1) := by decide +kernel
theorem dX12_areDemandsRight_22 : decode cX12_areDemandsRight 22 = .ok (.iinc 1 1, 3) := by decide +kernel
theorem dX12_areDemandsRight_25 : decode cX12_areDemandsRight 25 = .ok (.goto (-23), 3) := by decide +kernel
theorem dX12_areDemandsRight_28 : decode cX12_areDemandsRight 28 = .ok (.iconst 0, 1) := by decide +kernel
theorem dX12_areDemandsRight_29 : decode cX12_areDemandsRight 29 = .ok (.istore_n 1, 1) := by decide +kernel
theorem dX12_areDemandsRight_30 : decode cX12_areDemandsRight 30 = .ok (.iload_n 1, 1) := by decide +kernel
theorem dX12_areDemandsRight_31 : decode cX12_areDemandsRight 31 = .ok (.aload_n 0, 1) := by decide +kernel
theorem dX12_areDemandsRight_32 : decode cX12_areDemandsRight 32 = .ok (.getfield 125, 3) := by decide +kernel
theorem dX12_areDemandsRight_35 : decode cX12_areDemandsRight 35 = .ok (.if_icmp .ge 102, 3) := by decide +kernel
theorem dX12_areDemandsRight_38 : decode cX12_areDemandsRight 38 = .ok (.aload_n 0, 1) := by decide +kernel
theorem dX12_areDemandsRight_39 : decode cX12_areDemandsRight 39 = .ok (.getfield 137, 3) := by decide +kernel
theorem dX12_areDemandsRight_42 : decode cX12_areDemandsRight 42 = .ok (.iload_n 1, 1) := by decide +kernel
theorem dX12_areDemandsRight_43 : decode cX12_areDemandsRight 43 = .ok (.ishr, 1) := by decide +kernel
theorem dX12_areDemandsRight_44 : decode cX12_areDemandsRight 44 = .ok (.iconst 1, 1) := by decide +kernel
theorem dX12_areDemandsRight_45 : decode cX12_areDemandsRight 45 = .ok (.iand, 1) := by decide +kernel
theorem dX12_areDemandsRight_46 : decode cX12_areDemandsRight 46 = .ok (.iconst 1, 1) := by decide +kernel
theorem dX12_areDemandsRight_47 : decode cX12_areDemandsRight 47 = .ok (.if_icmp .ne 84, 3) := by decide +kernel
theorem dX12_areDemandsRight_50 : decode cX12_areDemandsRight 50 = .ok (.aload_n 0, 1) := by decide +kernel
theorem dX12_areDemandsRight_51 : decode cX12_areDemandsRight 51 = .ok (.aload_n 0, 1) := by decide +kernel
theorem dX12_areDemandsRight_52 : decode cX12_areDemandsRight 52 = .ok (.getfield 26, 3) := by decide +kernel
theorem dX12_areDemandsRight_55 : decode cX12_areDemandsRight 55 = .ok (.iconst 4, 1) := by decide +kernel
theorem dX12_areDemandsRight_56 : decode cX12_areDemandsRight 56 = .ok (.iload_n 1, 1) := by decide +kernel
theorem dX12_areDemandsRight_57 : decode cX12_areDemandsRight 57 = .ok (.imul, 1) := by decide +kernel
theorem dX12_areDemandsRight_58 : decode cX12_areDemandsRight 58 = .ok (.iconst 1, 1) := by decide +kernel
theorem dX12_areDemandsRight_59 : decode cX12_areDemandsRight 59 = .ok (.iadd, 1) := by decide +kernel
theorem dX12_areDemandsRight_60 : decode cX12_areDemandsRight 60 = .ok (.iaload, 1) := by decide +kernel
theorem dX12_areDemandsRight_61 : decode cX12_areDemandsRight 61 = .ok (.invokevirtual 140, 3) := by decide +kernel
theorem dX12_areDemandsRight_64 : decode cX12_areDemandsRight 64 = .ok (.istore_n 2, 1) := by decide +kernel
theorem dX12_areDemandsRight_65 : decode cX12_areDemandsRight 65 = .ok (.aload_n 0, 1) := by decide +kernel
theorem dX12_areDemandsRight_66 : decode cX12_areDemandsRight 66 = .ok (.getfield 44, 3) := by decide +kernel
theorem dX12_areDemandsRight_69 : decode cX12_areDemandsRight 69 = .ok (.iload_n 2, 1) := by decide +kernel
theorem dX12_areDemandsRight_70 : decode cX12_areDemandsRight 70 = .ok (.iaload, 1) := by decide +kernel
theorem dX12_areDemandsRight_71 : decode cX12_areDemandsRight 71 = .ok (.iconst (-1), 1) := by decide +kernel
theorem dX12_areDemandsRight_72 : decode cX12_areDemandsRight 72 = .ok (.if_icmp .eq 31, 3) := by decide +kernel
theorem dX12_areDemandsRight_75 : decode cX12_areDemandsRight 75 = .ok (.aload_n 0, 1) := by decide +kernel
theorem dX12_areDemandsRight_76 : decode cX12_areDemandsRight 76 = .ok (.getfield 22, 3) := by decide +kernel
theorem dX12_areDemandsRight_79 : decode cX12_areDemandsRight 79 = .ok (.bipush 24, 2) := by decide +kernel
theorem dX12_areDemandsRight_81 : decode cX12_areDemandsRight 81 = .ok (.aload_n 0, 1) := by decide +kernel
theorem dX12_areDemandsRight_82 : decode cX12_areDemandsRight 82 = .ok (.getfield 26, 3) := by decide +kernel
theorem dX12_areDemandsRight_85 : decode cX12_areDemandsRight 85 = .ok (.iconst 4, 1) := by decide +kernel
theorem dX12_areDemandsRight_86 : decode cX12_areDemandsRight 86 = .ok (.iload_n 1, 1) := by decide +kernel
theorem dX12_areDemandsRight_87 : decode cX12_areDemandsRight 87 = .ok (.imul, 1) := by decide +kernel
theorem dX12_areDemandsRight_88 : decode cX12_areDemandsRight 88 = .ok (.iconst 2, 1) := by decide +kernel
theorem dX12_areDemandsRight_89 : decode cX12_areDemandsRight 89 = .ok (.iadd, 1) := by decide +kernel
theorem dX12_areDemandsRight_90 : decode cX12_areDemandsRight 90 = .ok (.iaload, 1) := by decide +kernel
theorem dX12_areDemandsRight_91 : decode cX12_areDemandsRight 91 = .ok (.imul, 1) := by decide +kernel
theorem dX12_areDemandsRight_92 : decode cX12_areDemandsRight 92 = .ok (.aload_n 0, 1) := by decide +kernel
theorem dX12_areDemandsRight_93 : decode cX12_areDemandsRight 93 = .ok (.getfield 44, 3) := by decide +kernel
theorem dX12_areDemandsRight_96 : decode cX12_areDemandsRight 96 = .ok (.iload_n 2, 1) := by decide +kernel
theorem dX12_areDemandsRight_97 : decode cX12_areDemandsRight 97 = .ok (.iaload, 1) := by decide +kernel
theorem dX12_areDemandsRight_98 : decode cX12_areDemandsRight 98 = .ok (.iadd, 1) := by decide +kernel
theorem dX12_areDemandsRight_99 : decode cX12_areDemandsRight 99 = .ok (.baload, 1) := by decide +kernel
theorem dX12_areDemandsRight_100 : decode cX12_areDemandsRight 100 = .ok (.ifCond .ne 5, 3) := by decide +kernel
theorem dX12_areDemandsRight_103 : decode cX12_areDemandsRight 103 = .ok (.iconst 0, 1) := by decide +kernel
theorem dX12_areDemandsRight_104 : decode cX12_areDemandsRight 104 = .ok (.ireturn, 1) := by decide +kernel
theorem dX12_areDemandsRight_105 : decode cX12_areDemandsRight 105 = .ok (.aload_n 0, 1) := by decide +kernel
theorem dX12_areDemandsRight_106 : decode cX12_areDemandsRight 106 = .ok (.getfield 47, 3) := by decide +kernel
theorem dX12_areDemandsRight_109 : decode cX12_areDemandsRight 109 = .ok (.iload_n 2, 1) := by decide +kernel
theorem dX12_areDemandsRight_110 : decode cX12_areDemandsRight 110 = .ok (.dup2, 1) := by decide +kernel
theorem dX12_areDemandsRight_111 : decode cX12_areDemandsRight 111 = .ok (.iaload, 1) := by decide +kernel
theorem dX12_areDemandsRight_112 : decode cX12_areDemandsRight 112 = .ok (.aload_n 0, 1) := by decide +kernel
theorem dX12_areDemandsRight_113 : decode cX12_areDemandsRight 113 = .ok (.getfield 26, 3) := by decide +kernel
theorem dX12_areDemandsRight_116 : decode cX12_areDemandsRight 116 = .ok (.iconst 4, 1) := by decide +kernel
theorem dX12_areDemandsRight_117 : decode cX12_areDemandsRight 117 = .ok (.iload_n 1, 1) := by decide +kernel
theorem dX12_areDemandsRight_118 : decode cX12_areDemandsRight 118 = .ok (.imul, 1) := by decide +kernel
theorem dX12_areDemandsRight_119 : decode cX12_areDemandsRight 119 = .ok (.iconst 3, 1) := by decide +kernel
theorem dX12_areDemandsRight_120 : decode cX12_areDemandsRight 120 = .ok (.iadd, 1) := by decide +kernel
theorem dX12_areDemandsRight_121 : decode cX12_areDemandsRight 121 = .ok (.iaload, 1) := by decide +kernel
theorem dX12_areDemandsRight_122 : decode cX12_areDemandsRight 122 = .ok (.ior, 1) := by decide +kernel
theorem dX12_areDemandsRight_123 : decode cX12_areDemandsRight 123 = .ok (.iastore, 1) := by decide +kernel
theorem dX12_areDemandsRight_124 : decode cX12_areDemandsRight 124 = .ok (.aload_n 0, 1) := by decide +kernel
theorem dX12_areDemandsRight_125 : decode cX12_areDemandsRight 125 = .ok (.getfield 50, 3) := by decide +kernel
theorem dX12_areDemandsRight_128 : decode cX12_areDemandsRight 128 = .ok (.iload_n 2, 1) := by decide +kernel
theorem dX12_areDemandsRight_129 : decode cX12_areDemandsRight 129 = .ok (.iconst 1, 1) := by decide +kernel
theorem dX12_areDemandsRight_130 : decode cX12_areDemandsRight 130 = .ok (.bastore, 1) := by decide +kernel
theorem dX12_areDemandsRight_131 : decode cX12_areDemandsRight 131 = .ok (.iinc 1 1, 3) := by decide +kernel
theorem dX12_areDemandsRight_134 : decode cX12_areDemandsRight 134 = .ok (.goto (-104), 3) := by decide +kernel
theorem dX12_areDemandsRight_137 : decode cX12_areDemandsRight 137 = .ok (.iconst 1, 1) := by decide +kernel
theorem dX12_areDemandsRight_138 : decode cX12_areDemandsRight 138 = .ok (.ireturn, 1) := by decide +kernel
theorem dX12_counts_0 : decode cX12_counts 0 = .ok (.aload_n 0, 1) := by decide +kernel
theorem dX12_counts_1 : decode cX12_counts 1 = .ok (.getfield 16, 3) := by decide +kernel
theorem dX12_counts_4 : decode cX12_counts 4 = .ok (.iload_n 1, 1) := by decide +kernel
theorem dX12_counts_5 : decode cX12_counts 5 = .ok (.iconst 4, 1) := by decide +kernel
theorem dX12_counts_6 : decode cX12_counts 6 = .ok (.iadd, 1) := by decide +kernel
theorem dX12_counts_7 : decode cX12_counts 7 = .ok (.iaload, 1) := by decide +kernel
theorem dX12_counts_8 : decode cX12_counts 8 = .ok (.aload_n 0, 1) := by decide +kernel
theorem dX12_counts_9 : decode cX12_counts 9 = .ok (.getfield 131, 3) := by decide +kernel
theorem dX12_counts_12 : decode cX12_counts 12 = .ok (.ishr, 1) := by decide +kernel
theorem dX12_counts_13 : decode cX12_counts 13 = .ok (.iconst 1, 1) := by decide +kernel
theorem dX12_counts_14 : decode cX12_counts 14 = .ok (.iand, 1) := by decide +kernel
theorem dX12_counts_15 : decode cX12_counts 15 = .ok (.iconst 1, 1) := by decide +kernel
theorem dX12_counts_16 : decode cX12_counts 16 = .ok (.if_icmp .ne 40, 3) := by decide +kernel
theorem dX12_counts_19 : decode cX12_counts 19 = .ok (.aload_n 0, 1) := by decide +kernel
theorem dX12_counts_20 : decode cX12_counts 20 = .ok (.getfield 16, 3) := by decide +kernel
theorem dX12_counts_23 : decode cX12_counts 23 = .ok (.iload_n 1, 1) := by decide +kernel
theorem dX12_counts_24 : decode cX12_counts 24 = .ok (.iconst 3, 1) := by decide +kernel
theorem dX12_counts_25 : decode cX12_counts 25 = .ok (.iadd, 1) := by decide +kernel
theorem dX12_counts_26 : decode cX12_counts 26 = .ok (.iaload, 1) := by decide +kernel
theorem dX12_counts_27 : decode cX12_counts 27 = .ok (.iconst (-1), 1) := by decide +kernel
theorem dX12_counts_28 : decode cX12_counts 28 = .ok (.if_icmp .eq 24, 3) := by decide +kernel
theorem dX12_counts_31 : decode cX12_counts 31 = .ok (.aload_n 0, 1) := by decide +kernel
theorem dX12_counts_32 : decode cX12_counts 32 = .ok (.getfield 47, 3) := by decide +kernel
theorem dX12_counts_35 : decode cX12_counts 35 = .ok (.iload_n 2, 1) := by decide +kernel
theorem dX12_counts_36 : decode cX12_counts 36 = .ok (.iaload, 1) := by decide +kernel
theorem dX12_counts_37 : decode cX12_counts 37 = .ok (.aload_n 0, 1) := by decide +kernel
theorem dX12_counts_38 : decode cX12_counts 38 = .ok (.getfield 16, 3) := by decide +kernel
theorem dX12_counts_41 : decode cX12_counts 41 = .ok (.iload_n 1, 1) := by decide +kernel
theorem dX12_counts_42 : decode cX12_counts 42 = .ok (.iconst 3, 1) := by decide +kernel
theorem dX12_counts_43 : decode cX12_counts 43 = .ok (.iadd, 1) := by decide +kernel
theorem dX12_counts_44 : decode cX12_counts 44 = .ok (.iaload, 1) := by decide +kernel
theorem dX12_counts_45 : decode cX12_counts 45 = .ok (.ishr, 1) := by decide +kernel
theorem dX12_counts_46 : decode cX12_counts 46 = .ok (.iconst 1, 1) := by decide +kernel
theorem dX12_counts_47 : decode cX12_counts 47 = .ok (.iand, 1) := by decide +kernel
theorem dX12_counts_48 : decode cX12_counts 48 = .ok (.iconst 1, 1) := by decide +kernel
theorem dX12_counts_49 : decode cX12_counts 49 = .ok (.if_icmp .ne 7, 3) := by decide +kernel
theorem dX12_counts_52 : decode cX12_counts 52 = .ok (.iconst 1, 1) := by decide +kernel
theorem dX12_counts_53 : decode cX12_counts 53 = .ok (.goto 4, 3) := by decide +kernel
theorem dX12_counts_56 : decode cX12_counts 56 = .ok (.iconst 0, 1) := by decide +kernel
theorem dX12_counts_57 : decode cX12_counts 57 = .ok (.ireturn, 1) := by decide +kernel
theorem dX12_spread_0 : decode cX12_spread 0 = .ok (.aload_n 0, 1) := by decide +kernel
theorem dX12_spread_1 : decode cX12_spread 1 = .ok (.getfield 44, 3) := by decide +kernel
theorem dX12_spread_4 : decode cX12_spread 4 = .ok (.iload_n 1, 1) := by decide +kernel
theorem dX12_spread_5 : decode cX12_spread 5 = .ok (.iaload, 1) := by decide +kernel
theorem dX12_spread_6 : decode cX12_spread 6 = .ok (.istore_n 2, 1) := by decide +kernel
theorem dX12_spread_7 : decode cX12_spread 7 = .ok (.iconst 0, 1) := by decide +kernel
theorem dX12_spread_8 : decode cX12_spread 8 = .ok (.istore_n 3, 1) := by decide +kernel
theorem dX12_spread_9 : decode cX12_spread 9 = .ok (.iconst 0, 1) := by decide +kernel
theorem dX12_spread_10 : decode cX12_spread 10 = .ok (.istore 4, 2) := by decide +kernel
theorem dX12_spread_12 : decode cX12_spread 12 = .ok (.iload 4, 2) := by decide +kernel
theorem dX12_spread_14 : decode cX12_spread 14 = .ok (.iconst 3, 1) := by decide +kernel
theorem dX12_spread_15 : decode cX12_spread 15 = .ok (.if_icmp .ge 80, 3) := by decide +kernel
theorem dX12_spread_18 : decode cX12_spread 18 = .ok (.aload_n 0, 1) := by decide +kernel
theorem dX12_spread_19 : decode cX12_spread 19 = .ok (.getfield 47, 3) := by decide +kernel
theorem dX12_spread_22 : decode cX12_spread 22 = .ok (.iload_n 1, 1) := by decide +kernel
theorem dX12_spread_23 : decode cX12_spread 23 = .ok (.iaload, 1) := by decide +kernel
theorem dX12_spread_24 : decode cX12_spread 24 = .ok (.iload 4, 2) := by decide +kernel
theorem dX12_spread_26 : decode cX12_spread 26 = .ok (.ishr, 1) := by decide +kernel
theorem dX12_spread_27 : decode cX12_spread 27 = .ok (.iconst 1, 1) := by decide +kernel
theorem dX12_spread_28 : decode cX12_spread 28 = .ok (.iand, 1) := by decide +kernel
theorem dX12_spread_29 : decode cX12_spread 29 = .ok (.iconst 1, 1) := by decide +kernel
theorem dX12_spread_30 : decode cX12_spread 30 = .ok (.if_icmp .ne 17, 3) := by decide +kernel
theorem dX12_spread_33 : decode cX12_spread 33 = .ok (.aload_n 0, 1) := by decide +kernel
theorem dX12_spread_34 : decode cX12_spread 34 = .ok (.getfield 13, 3) := by decide +kernel
theorem dX12_spread_37 : decode cX12_spread 37 = .ok (.iconst 3, 1) := by decide +kernel
theorem dX12_spread_38 : decode cX12_spread 38 = .ok (.iload_n 2, 1) := by decide +kernel
theorem dX12_spread_39 : decode cX12_spread 39 = .ok (.imul, 1) := by decide +kernel
theorem dX12_spread_40 : decode cX12_spread 40 = .ok (.iload 4, 2) := by decide +kernel
theorem dX12_spread_42 : decode cX12_spread 42 = .ok (.iadd, 1) := by decide +kernel
theorem dX12_spread_43 : decode cX12_spread 43 = .ok (.iaload, 1) := by decide +kernel
theorem dX12_spread_44 : decode cX12_spread 44 = .ok (.goto 4, 3) := by decide +kernel
theorem dX12_spread_47 : decode cX12_spread 47 = .ok (.iconst 0, 1) := by decide +kernel
theorem dX12_spread_48 : decode cX12_spread 48 = .ok (.istore 5, 2) := by decide +kernel
theorem dX12_spread_50 : decode cX12_spread 50 = .ok (.iload_n 3, 1) := by decide +kernel
theorem dX12_spread_51 : decode cX12_spread 51 = .ok (.ifCond .ne 21, 3) := by decide +kernel
theorem dX12_spread_54 : decode cX12_spread 54 = .ok (.aload_n 0, 1) := by decide +kernel
theorem dX12_spread_55 : decode cX12_spread 55 = .ok (.getfield 47, 3) := by decide +kernel
theorem dX12_spread_58 : decode cX12_spread 58 = .ok (.iload_n 1, 1) := by decide +kernel
theorem dX12_spread_59 : decode cX12_spread 59 = .ok (.iaload, 1) := by decide +kernel
theorem dX12_spread_60 : decode cX12_spread 60 = .ok (.iload 5, 2) := by decide +kernel
theorem dX12_spread_62 : decode cX12_spread 62 = .ok (.ior, 1) := by decide +kernel
theorem dX12_spread_63 : decode cX12_spread 63 = .ok (.aload_n 0, 1) := by decide +kernel
theorem dX12_spread_64 : decode cX12_spread 64 = .ok (.getfield 47, 3) := by decide +kernel
theorem dX12_spread_67 : decode cX12_spread 67 = .ok (.iload_n 1, 1) := by decide +kernel
theorem dX12_spread_68 : decode cX12_spread 68 = .ok (.iaload, 1) := by decide +kernel
theorem dX12_spread_69 : decode cX12_spread 69 = .ok (.if_icmp .eq 7, 3) := by decide +kernel
theorem dX12_spread_72 : decode cX12_spread 72 = .ok (.iconst 1, 1) := by decide +kernel
theorem dX12_spread_73 : decode cX12_spread 73 = .ok (.goto 4, 3) := by decide +kernel
theorem dX12_spread_76 : decode cX12_spread 76 = .ok (.iconst 0, 1) := by decide +kernel
theorem dX12_spread_77 : decode cX12_spread 77 = .ok (.istore_n 3, 1) := by decide +kernel
theorem dX12_spread_78 : decode cX12_spread 78 = .ok (.aload_n 0, 1) := by decide +kernel
theorem dX12_spread_79 : decode cX12_spread 79 = .ok (.getfield 47, 3) := by decide +kernel
theorem dX12_spread_82 : decode cX12_spread 82 = .ok (.iload_n 1, 1) := by decide +kernel
theorem dX12_spread_83 : decode cX12_spread 83 = .ok (.dup2, 1) := by decide +kernel
theorem dX12_spread_84 : decode cX12_spread 84 = .ok (.iaload, 1) := by decide +kernel
theorem dX12_spread_85 : decode cX12_spread 85 = .ok (.iload 5, 2) := by decide +kernel
theorem dX12_spread_87 : decode cX12_spread 87 = .ok (.ior, 1) := by decide +kernel
theorem dX12_spread_88 : decode cX12_spread 88 = .ok (.iastore, 1) := by decide +kernel
theorem dX12_spread_89 : decode cX12_spread 89 = .ok (.iinc 4 1, 3) := by decide +kernel
theorem dX12_spread_92 : decode cX12_spread 92 = .ok (.goto (-80), 3) := by decide +kernel
theorem dX12_spread_95 : decode cX12_spread 95 = .ok (.iconst 0, 1) := by decide +kernel
theorem dX12_spread_96 : decode cX12_spread 96 = .ok (.istore 4, 2) := by decide +kernel
theorem dX12_spread_98 : decode cX12_spread 98 = .ok (.iload 4, 2) := by decide +kernel
theorem dX12_spread_100 : decode cX12_spread 100 = .ok (.aload_n 0, 1) := by decide +kernel
theorem dX12_spread_101 : decode cX12_spread 101 = .ok (.getfield 7, 3) := by decide +kernel
theorem dX12_spread_104 : decode cX12_spread 104 = .ok (.bipush 9, 2) := by decide +kernel
theorem dX12_spread_106 : decode cX12_spread 106 = .ok (.iload_n 2, 1) := by decide +kernel
theorem dX12_spread_107 : decode cX12_spread 107 = .ok (.imul, 1) := by decide +kernel
theorem dX12_spread_108 : decode cX12_spread 108 = .ok (.bipush 8, 2) := by decide +kernel
theorem dX12_spread_110 : decode cX12_spread 110 = .ok (.iadd, 1) := by decide +kernel
theorem dX12_spread_111 : decode cX12_spread 111 = .ok (.iaload, 1) := by decide +kernel
theorem dX12_spread_112 : decode cX12_spread 112 = .ok (.if_icmp .ge 110, 3) := by decide +kernel
theorem dX12_spread_115 : decode cX12_spread 115 = .ok (.bipush 6, 2) := by decide +kernel
theorem dX12_spread_117 : decode cX12_spread 117 = .ok (.iconst 5, 1) := by decide +kernel
theorem dX12_spread_118 : decode cX12_spread 118 = .ok (.iload_n 2, 1) := by decide +kernel
theorem dX12_spread_119 : decode cX12_spread 119 = .ok (.imul, 1) := by decide +kernel
theorem dX12_spread_120 : decode cX12_spread 120 = .ok (.iload 4, 2) := by decide +kernel
theorem dX12_spread_122 : decode cX12_spread 122 = .ok (.iadd, 1) := by decide +kernel
theorem dX12_spread_123 : decode cX12_spread 123 = .ok (.imul, 1) := by decide +kernel
theorem dX12_spread_124 : decode cX12_spread 124 = .ok (.istore 5, 2) := by decide +kernel
theorem dX12_spread_126 : decode cX12_spread 126 = .ok (.aload_n 0, 1) := by decide +kernel
theorem dX12_spread_127 : decode cX12_spread 127 = .ok (.aload_n 0, 1) := by decide +kernel
theorem dX12_spread_128 : decode cX12_spread 128 = .ok (.getfield 16, 3) := by decide +kernel
theorem dX12_spread_131 : decode cX12_spread 131 = .ok (.iload 5, 2) := by decide +kernel
theorem dX12_spread_133 : decode cX12_spread 133 = .ok (.iaload, 1) := by decide +kernel
theorem dX12_spread_134 : decode cX12_spread 134 = .ok (.invokevirtual 140, 3) := by decide +kernel
theorem dX12_spread_137 : decode cX12_spread 137 = .ok (.istore 6, 2) := by decide +kernel
theorem dX12_spread_139 : decode cX12_spread 139 = .ok (.aload_n 0, 1) := by decide +kernel
theorem dX12_spread_140 : decode cX12_spread 140 = .ok (.iload 5, 2) := by decide +kernel
theorem dX12_spread_142 : decode cX12_spread 142 = .ok (.iload_n 1, 1) := by decide +kernel
theorem dX12_spread_143 : decode cX12_spread 143 = .ok (.invokevirtual 156, 3) := by decide +kernel
theorem dX12_spread_146 : decode cX12_spread 146 = .ok (.ifCond .eq 70, 3) := by decide +kernel
theorem dX12_spread_149 : decode cX12_spread 149 = .ok (.aload_n 0, 1) := by decide +kernel
theorem dX12_spread_150 : decode cX12_spread 150 = .ok (.getfield 44, 3) := by decide +kernel
theorem dX12_spread_153 : decode cX12_spread 153 = .ok (.iload 6, 2) := by decide +kernel
theorem dX12_spread_155 : decode cX12_spread 155 = .ok (.iaload, 1) := by decide +kernel
theorem dX12_spread_156 : decode cX12_spread 156 = .ok (.iconst (-1), 1) := by decide +kernel
theorem dX12_spread_157 : decode cX12_spread 157 = .ok (.if_icmp .eq 59, 3) := by decide +kernel
theorem dX12_spread_160 : decode cX12_spread 160 = .ok (.iload_n 3, 1) := by decide +kernel
theorem dX12_spread_161 : decode cX12_spread 161 = .ok (.ifCond .ne 30, 3) := by decide +kernel
theorem dX12_spread_164 : decode cX12_spread 164 = .ok (.aload_n 0, 1) := by decide +kernel
theorem dX12_spread_165 : decode cX12_spread 165 = .ok (.getfield 47, 3) := by decide +kernel
theorem dX12_spread_168 : decode cX12_spread 168 = .ok (.iload 6, 2) := by decide +kernel
theorem dX12_spread_170 : decode cX12_spread 170 = .ok (.iaload, 1) := by decide +kernel
theorem dX12_spread_171 : decode cX12_spread 171 = .ok (.aload_n 0, 1) := by decide +kernel
theorem dX12_spread_172 : decode cX12_spread 172 = .ok (.getfield 16, 3) := by decide +kernel
theorem dX12_spread_175 : decode cX12_spread 175 = .ok (.iload 5, 2) := by decide +kernel
theorem dX12_spread_177 : decode cX12_spread 177 = .ok (.iconst 5, 1) := by decide +kernel
theorem dX12_spread_178 : decode cX12_spread 178 = .ok (.iadd, 1) := by decide +kernel
theorem dX12_spread_179 : decode cX12_spread 179 = .ok (.iaload, 1) := by decide +kernel
theorem dX12_spread_180 : decode cX12_spread 180 = .ok (.ior, 1) := by decide +kernel
theorem dX12_spread_181 : decode cX12_spread 181 = .ok (.aload_n 0, 1) := by decide +kernel
theorem dX12_spread_182 : decode cX12_spread 182 = .ok (.getfield 47, 3) := by decide +kernel
theorem dX12_spread_185 : decode cX12_spread 185 = .ok (.iload 6, 2) := by decide +kernel
theorem dX12_spread_187 : decode cX12_spread 187 = .ok (.iaload, 1) := by decide +kernel
theorem dX12_spread_188 : decode cX12_spread 188 = .ok (.if_icmp .eq 7, 3) := by decide +kernel
theorem dX12_spread_191 : decode cX12_spread 191 = .ok (.iconst 1, 1) := by decide +kernel
theorem dX12_spread_192 : decode cX12_spread 192 = .ok (.goto 4, 3) := by decide +kernel
theorem dX12_spread_195 : decode cX12_spread 195 = .ok (.iconst 0, 1) := by decide +kernel
theorem dX12_spread_196 : decode cX12_spread 196 = .ok (.istore_n 3, 1) := by decide +kernel
theorem dX12_spread_197 : decode cX12_spread 197 = .ok (.aload_n 0, 1) := by decide +kernel
theorem dX12_spread_198 : decode cX12_spread 198 = .ok (.getfield 47, 3) := by decide +kernel
theorem dX12_spread_201 : decode cX12_spread 201 = .ok (.iload 6, 2) := by decide +kernel
theorem dX12_spread_203 : decode cX12_spread 203 = .ok (.dup2, 1) := by decide +kernel
theorem dX12_spread_204 : decode cX12_spread 204 = .ok (.iaload, 1) := by decide +kernel
theorem dX12_spread_205 : decode cX12_spread 205 = .ok (.aload_n 0, 1) := by decide +kernel
theorem dX12_spread_206 : decode cX12_spread 206 = .ok (.getfield 16, 3) := by decide +kernel
theorem dX12_spread_209 : decode cX12_spread 209 = .ok (.iload 5, 2) := by decide +kernel
theorem dX12_spread_211 : decode cX12_spread 211 = .ok (.iconst 5, 1) := by decide +kernel
theorem dX12_spread_212 : decode cX12_spread 212 = .ok (.iadd, 1) := by decide +kernel
theorem dX12_spread_213 : decode cX12_spread 213 = .ok (.iaload, 1) := by decide +kernel
theorem dX12_spread_214 : decode cX12_spread 214 = .ok (.ior, 1) := by decide +kernel
theorem dX12_spread_215 : decode cX12_spread 215 = .ok (.iastore, 1) := by decide +kernel
theorem dX12_spread_216 : decode cX12_spread 216 = .ok (.iinc 4 1, 3) := by decide +kernel
theorem dX12_spread_219 : decode cX12_spread 219 = .ok (.goto (-121), 3) := by decide +kernel
theorem dX12_spread_222 : decode cX12_spread 222 = .ok (.iload_n 3, 1) := by decide +kernel
theorem dX12_spread_223 : decode cX12_spread 223 = .ok (.ireturn, 1) := by decide +kernel
theorem dX12_areNeedsRight_0 : decode cX12_areNeedsRight 0 = .ok (.aload_n 0, 1) := by decide +kernel
theorem dX12_areNeedsRight_1 : decode cX12_areNeedsRight 1 = .ok (.getfield 44, 3) := by decide +kernel
theorem dX12_areNeedsRight_4 : decode cX12_areNeedsRight 4 = .ok (.iload_n 1, 1) := by decide +kernel
theorem dX12_areNeedsRight_5 : decode cX12_areNeedsRight 5 = .ok (.iaload, 1) := by decide +kernel
theorem dX12_areNeedsRight_6 : decode cX12_areNeedsRight 6 = .ok (.istore_n 2, 1) := by decide +kernel
theorem dX12_areNeedsRight_7 : decode cX12_areNeedsRight 7 = .ok (.iconst 0, 1) := by decide +kernel
theorem dX12_areNeedsRight_8 : decode cX12_areNeedsRight 8 = .ok (.istore_n 3, 1) := by decide +kernel
theorem dX12_areNeedsRight_9 : decode cX12_areNeedsRight 9 = .ok (.iload_n 3, 1) := by decide +kernel
theorem dX12_areNeedsRight_10 : decode cX12_areNeedsRight 10 = .ok (.aload_n 0, 1) := by decide +kernel
theorem dX12_areNeedsRight_11 : decode cX12_areNeedsRight 11 = .ok (.getfield 7, 3) := by decide +kernel
theorem dX12_areNeedsRight_14 : decode cX12_areNeedsRight 14 = .ok (.bipush 9, 2) := by decide +kernel
theorem dX12_areNeedsRight_16 : decode cX12_areNeedsRight 16 = .ok (.iload_n 2, 1) := by decide +kernel
theorem dX12_areNeedsRight_17 : decode cX12_areNeedsRight 17 = .ok (.imul, 1) := by decide +kernel
theorem dX12_areNeedsRight_18 : decode cX12_areNeedsRight 18 = .ok (.bipush 8, 2) := by decide +kernel
theorem dX12_areNeedsRight_20 : decode cX12_areNeedsRight 20 = .ok (.iadd, 1) := by decide +kernel
theorem dX12_areNeedsRight_21 : decode cX12_areNeedsRight 21 = .ok (.iaload, 1) := by decide +kernel
theorem dX12_areNeedsRight_22 : decode cX12_areNeedsRight 22 = .ok (.if_icmp .ge 94, 3) := by decide +kernel
theorem dX12_areNeedsRight_25 : decode cX12_areNeedsRight 25 = .ok (.bipush 6, 2) := by decide +kernel
theorem dX12_areNeedsRight_27 : decode cX12_areNeedsRight 27 = .ok (.iconst 5, 1) := by decide +kernel
theorem dX12_areNeedsRight_28 : decode cX12_areNeedsRight 28 = .ok (.iload_n 2, 1) := by decide +kernel
theorem dX12_areNeedsRight_29 : decode cX12_areNeedsRight 29 = .ok (.imul, 1) := by decide +kernel
theorem dX12_areNeedsRight_30 : decode cX12_areNeedsRight 30 = .ok (.iload_n 3, 1) := by decide +kernel
theorem dX12_areNeedsRight_31 : decode cX12_areNeedsRight 31 = .ok (.iadd, 1) := by decide +kernel
theorem dX12_areNeedsRight_32 : decode cX12_areNeedsRight 32 = .ok (.imul, 1) := by decide +kernel
theorem dX12_areNeedsRight_33 : decode cX12_areNeedsRight 33 = .ok (.istore 4, 2) := by decide +kernel
theorem dX12_areNeedsRight_35 : decode cX12_areNeedsRight 35 = .ok (.aload_n 0, 1) := by decide +kernel
theorem dX12_areNeedsRight_36 : decode cX12_areNeedsRight 36 = .ok (.getfield 44, 3) := by decide +kernel
theorem dX12_areNeedsRight_39 : decode cX12_areNeedsRight 39 = .ok (.aload_n 0, 1) := by decide +kernel
theorem dX12_areNeedsRight_40 : decode cX12_areNeedsRight 40 = .ok (.aload_n 0, 1) := by decide +kernel
theorem dX12_areNeedsRight_41 : decode cX12_areNeedsRight 41 = .ok (.getfield 16, 3) := by decide +kernel
theorem dX12_areNeedsRight_44 : decode cX12_areNeedsRight 44 = .ok (.iload 4, 2) := by decide +kernel
theorem dX12_areNeedsRight_46 : decode cX12_areNeedsRight 46 = .ok (.iaload, 1) := by decide +kernel
theorem dX12_areNeedsRight_47 : decode cX12_areNeedsRight 47 = .ok (.invokevirtual 140, 3) := by decide +kernel
theorem dX12_areNeedsRight_50 : decode cX12_areNeedsRight 50 = .ok (.iaload, 1) := by decide +kernel
theorem dX12_areNeedsRight_51 : decode cX12_areNeedsRight 51 = .ok (.istore 5, 2) := by decide +kernel
theorem dX12_areNeedsRight_53 : decode cX12_areNeedsRight 53 = .ok (.aload_n 0, 1) := by decide +kernel
theorem dX12_areNeedsRight_54 : decode cX12_areNeedsRight 54 = .ok (.iload 4, 2) := by decide +kernel
theorem dX12_areNeedsRight_56 : decode cX12_areNeedsRight 56 = .ok (.iload_n 1, 1) := by decide +kernel
theorem dX12_areNeedsRight_57 : decode cX12_areNeedsRight 57 = .ok (.invokevirtual 156, 3) := by decide +kernel
theorem dX12_areNeedsRight_60 : decode cX12_areNeedsRight 60 = .ok (.ifCond .eq 50, 3) := by decide +kernel
theorem dX12_areNeedsRight_63 : decode cX12_areNeedsRight 63 = .ok (.iload 5, 2) := by decide +kernel
theorem dX12_areNeedsRight_65 : decode cX12_areNeedsRight 65 = .ok (.iconst (-1), 1) := by decide +kernel
theorem dX12_areNeedsRight_66 : decode cX12_areNeedsRight 66 = .ok (.if_icmp .ne 19, 3) := by decide +kernel
theorem dX12_areNeedsRight_69 : decode cX12_areNeedsRight 69 = .ok (.aload_n 0, 1) := by decide +kernel
theorem dX12_areNeedsRight_70 : decode cX12_areNeedsRight 70 = .ok (.getfield 16, 3) := by decide +kernel
theorem dX12_areNeedsRight_73 : decode cX12_areNeedsRight 73 = .ok (.iload 4, 2) := by decide +kernel
theorem dX12_areNeedsRight_75 : decode cX12_areNeedsRight 75 = .ok (.iconst 2, 1) := by decide +kernel
theorem dX12_areNeedsRight_76 : decode cX12_areNeedsRight 76 = .ok (.iadd, 1) := by decide +kernel
theorem dX12_areNeedsRight_77 : decode cX12_areNeedsRight 77 = .ok (.iaload, 1) := by decide +kernel
theorem dX12_areNeedsRight_78 : decode cX12_areNeedsRight 78 = .ok (.iconst 1, 1) := by decide +kernel
theorem dX12_areNeedsRight_79 : decode cX12_areNeedsRight 79 = .ok (.if_icmp .eq 31, 3) := by decide +kernel
theorem dX12_areNeedsRight_82 : decode cX12_areNeedsRight 82 = .ok (.goto 26, 3) := by decide +kernel
theorem dX12_areNeedsRight_85 : decode cX12_areNeedsRight 85 = .ok (.aload_n 0, 1) := by decide +kernel
theorem dX12_areNeedsRight_86 : decode cX12_areNeedsRight 86 = .ok (.getfield 22, 3) := by decide +kernel
theorem dX12_areNeedsRight_89 : decode cX12_areNeedsRight 89 = .ok (.bipush 24, 2) := by decide +kernel
theorem dX12_areNeedsRight_91 : decode cX12_areNeedsRight 91 = .ok (.aload_n 0, 1) := by decide +kernel
theorem dX12_areNeedsRight_92 : decode cX12_areNeedsRight 92 = .ok (.getfield 16, 3) := by decide +kernel
theorem dX12_areNeedsRight_95 : decode cX12_areNeedsRight 95 = .ok (.iload 4, 2) := by decide +kernel
theorem dX12_areNeedsRight_97 : decode cX12_areNeedsRight 97 = .ok (.iconst 1, 1) := by decide +kernel
theorem dX12_areNeedsRight_98 : decode cX12_areNeedsRight 98 = .ok (.iadd, 1) := by decide +kernel
theorem dX12_areNeedsRight_99 : decode cX12_areNeedsRight 99 = .ok (.iaload, 1) := by decide +kernel
theorem dX12_areNeedsRight_100 : decode cX12_areNeedsRight 100 = .ok (.imul, 1) := by decide +kernel
theorem dX12_areNeedsRight_101 : decode cX12_areNeedsRight 101 = .ok (.iload 5, 2) := by decide +kernel
theorem dX12_areNeedsRight_103 : decode cX12_areNeedsRight 103 = .ok (.iadd, 1) := by decide +kernel
theorem dX12_areNeedsRight_104 : decode cX12_areNeedsRight 104 = .ok (.baload, 1) := by decide +kernel
theorem dX12_areNeedsRight_105 : decode cX12_areNeedsRight 105 = .ok (.ifCond .ne 5, 3) := by decide +kernel
theorem dX12_areNeedsRight_108 : decode cX12_areNeedsRight 108 = .ok (.iconst 0, 1) := by decide +kernel
theorem dX12_areNeedsRight_109 : decode cX12_areNeedsRight 109 = .ok (.ireturn, 1) := by decide +kernel
theorem dX12_areNeedsRight_110 : decode cX12_areNeedsRight 110 = .ok (.iinc 3 1, 3) := by decide +kernel
theorem dX12_areNeedsRight_113 : decode cX12_areNeedsRight 113 = .ok (.goto (-104), 3) := by decide +kernel
theorem dX12_areNeedsRight_116 : decode cX12_areNeedsRight 116 = .ok (.iconst 1, 1) := by decide +kernel
theorem dX12_areNeedsRight_117 : decode cX12_areNeedsRight 117 = .ok (.ireturn, 1) := by decide +kernel
theorem dX12_pull_0 : decode cX12_pull 0 = .ok (.iconst 0, 1) := by decide +kernel
theorem dX12_pull_1 : decode cX12_pull 1 = .ok (.istore_n 2, 1) := by decide +kernel
theorem dX12_pull_2 : decode cX12_pull 2 = .ok (.aload_n 0, 1) := by decide +kernel
theorem dX12_pull_3 : decode cX12_pull 3 = .ok (.getfield 44, 3) := by decide +kernel
theorem dX12_pull_6 : decode cX12_pull 6 = .ok (.iload_n 1, 1) := by decide +kernel
theorem dX12_pull_7 : decode cX12_pull 7 = .ok (.iaload, 1) := by decide +kernel
theorem dX12_pull_8 : decode cX12_pull 8 = .ok (.istore_n 3, 1) := by decide +kernel
theorem dX12_pull_9 : decode cX12_pull 9 = .ok (.iconst 0, 1) := by decide +kernel
theorem dX12_pull_10 : decode cX12_pull 10 = .ok (.istore 4, 2) := by decide +kernel
theorem dX12_pull_12 : decode cX12_pull 12 = .ok (.iload 4, 2) := by decide +kernel
theorem dX12_pull_14 : decode cX12_pull 14 = .ok (.aload_n 0, 1) := by decide +kernel
theorem dX12_pull_15 : decode cX12_pull 15 = .ok (.getfield 7, 3) := by decide +kernel
theorem dX12_pull_18 : decode cX12_pull 18 = .ok (.bipush 9, 2) := by decide +kernel
theorem dX12_pull_20 : decode cX12_pull 20 = .ok (.iload_n 3, 1) := by decide +kernel
theorem dX12_pull_21 : decode cX12_pull 21 = .ok (.imul, 1) := by decide +kernel
theorem dX12_pull_22 : decode cX12_pull 22 = .ok (.bipush 8, 2) := by decide +kernel
theorem dX12_pull_24 : decode cX12_pull 24 = .ok (.iadd, 1) := by decide +kernel
theorem dX12_pull_25 : decode cX12_pull 25 = .ok (.iaload, 1) := by decide +kernel
theorem dX12_pull_26 : decode cX12_pull 26 = .ok (.if_icmp .ge 87, 3) := by decide +kernel
theorem dX12_pull_29 : decode cX12_pull 29 = .ok (.bipush 6, 2) := by decide +kernel
theorem dX12_pull_31 : decode cX12_pull 31 = .ok (.iconst 5, 1) := by decide +kernel
theorem dX12_pull_32 : decode cX12_pull 32 = .ok (.iload_n 3, 1) := by decide +kernel
theorem dX12_pull_33 : decode cX12_pull 33 = .ok (.imul, 1) := by decide +kernel
theorem dX12_pull_34 : decode cX12_pull 34 = .ok (.iload 4, 2) := by decide +kernel
theorem dX12_pull_36 : decode cX12_pull 36 = .ok (.iadd, 1) := by decide +kernel
theorem dX12_pull_37 : decode cX12_pull 37 = .ok (.imul, 1) := by decide +kernel
theorem dX12_pull_38 : decode cX12_pull 38 = .ok (.istore 5, 2) := by decide +kernel
theorem dX12_pull_40 : decode cX12_pull 40 = .ok (.aload_n 0, 1) := by decide +kernel
theorem dX12_pull_41 : decode cX12_pull 41 = .ok (.aload_n 0, 1) := by decide +kernel
theorem dX12_pull_42 : decode cX12_pull 42 = .ok (.getfield 16, 3) := by decide +kernel
theorem dX12_pull_45 : decode cX12_pull 45 = .ok (.iload 5, 2) := by decide +kernel
theorem dX12_pull_47 : decode cX12_pull 47 = .ok (.iaload, 1) := by decide +kernel
theorem dX12_pull_48 : decode cX12_pull 48 = .ok (.invokevirtual 140, 3) := by decide +kernel
theorem dX12_pull_51 : decode cX12_pull 51 = .ok (.istore 6, 2) := by decide +kernel
theorem dX12_pull_53 : decode cX12_pull 53 = .ok (.aload_n 0, 1) := by decide +kernel
theorem dX12_pull_54 : decode cX12_pull 54 = .ok (.iload 5, 2) := by decide +kernel
theorem dX12_pull_56 : decode cX12_pull 56 = .ok (.iload_n 1, 1) := by decide +kernel
theorem dX12_pull_57 : decode cX12_pull 57 = .ok (.invokevirtual 156, 3) := by decide +kernel
theorem dX12_pull_60 : decode cX12_pull 60 = .ok (.ifCond .eq 47, 3) := by decide +kernel
theorem dX12_pull_63 : decode cX12_pull 63 = .ok (.aload_n 0, 1) := by decide +kernel
theorem dX12_pull_64 : decode cX12_pull 64 = .ok (.getfield 16, 3) := by decide +kernel
theorem dX12_pull_67 : decode cX12_pull 67 = .ok (.iload 5, 2) := by decide +kernel
theorem dX12_pull_69 : decode cX12_pull 69 = .ok (.iconst 2, 1) := by decide +kernel
theorem dX12_pull_70 : decode cX12_pull 70 = .ok (.iadd, 1) := by decide +kernel
theorem dX12_pull_71 : decode cX12_pull 71 = .ok (.iaload, 1) := by decide +kernel
theorem dX12_pull_72 : decode cX12_pull 72 = .ok (.iconst 2, 1) := by decide +kernel
theorem dX12_pull_73 : decode cX12_pull 73 = .ok (.if_icmp .eq 34, 3) := by decide +kernel
theorem dX12_pull_76 : decode cX12_pull 76 = .ok (.aload_n 0, 1) := by decide +kernel
theorem dX12_pull_77 : decode cX12_pull 77 = .ok (.getfield 44, 3) := by decide +kernel
theorem dX12_pull_80 : decode cX12_pull 80 = .ok (.iload 6, 2) := by decide +kernel
theorem dX12_pull_82 : decode cX12_pull 82 = .ok (.iaload, 1) := by decide +kernel
theorem dX12_pull_83 : decode cX12_pull 83 = .ok (.iconst (-1), 1) := by decide +kernel
theorem dX12_pull_84 : decode cX12_pull 84 = .ok (.if_icmp .eq 23, 3) := by decide +kernel
theorem dX12_pull_87 : decode cX12_pull 87 = .ok (.aload_n 0, 1) := by decide +kernel
theorem dX12_pull_88 : decode cX12_pull 88 = .ok (.getfield 50, 3) := by decide +kernel
theorem dX12_pull_91 : decode cX12_pull 91 = .ok (.iload 6, 2) := by decide +kernel
theorem dX12_pull_93 : decode cX12_pull 93 = .ok (.baload, 1) := by decide +kernel
theorem dX12_pull_94 : decode cX12_pull 94 = .ok (.ifCond .ne 13, 3) := by decide +kernel
theorem dX12_pull_97 : decode cX12_pull 97 = .ok (.aload_n 0, 1) := by decide +kernel
theorem dX12_pull_98 : decode cX12_pull 98 = .ok (.getfield 50, 3) := by decide +kernel
theorem dX12_pull_101 : decode cX12_pull 101 = .ok (.iload 6, 2) := by decide +kernel
theorem dX12_pull_103 : decode cX12_pull 103 = .ok (.iconst 1, 1) := by decide +kernel
theorem dX12_pull_104 : decode cX12_pull 104 = .ok (.bastore, 1) := by decide +kernel
theorem dX12_pull_105 : decode cX12_pull 105 = .ok (.iconst 1, 1) := by decide +kernel
theorem dX12_pull_106 : decode cX12_pull 106 = .ok (.istore_n 2, 1) := by decide +kernel
theorem dX12_pull_107 : decode cX12_pull 107 = .ok (.iinc 4 1, 3) := by decide +kernel
theorem dX12_pull_110 : decode cX12_pull 110 = .ok (.goto (-98), 3) := by decide +kernel
theorem dX12_pull_113 : decode cX12_pull 113 = .ok (.iload_n 2, 1) := by decide +kernel
theorem dX12_pull_114 : decode cX12_pull 114 = .ok (.ireturn, 1) := by decide +kernel
theorem dX12_isSolution_0 : decode cX12_isSolution 0 = .ok (.aload_n 0, 1) := by decide +kernel
theorem dX12_isSolution_1 : decode cX12_isSolution 1 = .ok (.invokevirtual 159, 3) := by decide +kernel
theorem dX12_isSolution_4 : decode cX12_isSolution 4 = .ok (.ifCond .ne 5, 3) := by decide +kernel
theorem dX12_isSolution_7 : decode cX12_isSolution 7 = .ok (.iconst 0, 1) := by decide +kernel
theorem dX12_isSolution_8 : decode cX12_isSolution 8 = .ok (.ireturn, 1) := by decide +kernel
theorem dX12_isSolution_9 : decode cX12_isSolution 9 = .ok (.iconst 1, 1) := by decide +kernel
theorem dX12_isSolution_10 : decode cX12_isSolution 10 = .ok (.istore_n 1, 1) := by decide +kernel
theorem dX12_isSolution_11 : decode cX12_isSolution 11 = .ok (.iload_n 1, 1) := by decide +kernel
theorem dX12_isSolution_12 : decode cX12_isSolution 12 = .ok (.ifCond .eq 50, 3) := by decide +kernel
theorem dX12_isSolution_15 : decode cX12_isSolution 15 = .ok (.iconst 0, 1) := by decide +kernel
theorem dX12_isSolution_16 : decode cX12_isSolution 16 = .ok (.istore_n 1, 1) := by decide +kernel
theorem dX12_isSolution_17 : decode cX12_isSolution 17 = .ok (.iconst 0, 1) := by decide +kernel
theorem dX12_isSolution_18 : decode cX12_isSolution 18 = .ok (.istore_n 2, 1) := by decide +kernel
theorem dX12_isSolution_19 : decode cX12_isSolution 19 = .ok (.iload_n 2, 1) := by decide +kernel
theorem dX12_isSolution_20 : decode cX12_isSolution 20 = .ok (.bipush 6, 2) := by decide +kernel
theorem dX12_isSolution_22 : decode cX12_isSolution 22 = .ok (.if_icmp .ge 37, 3) := by decide +kernel
theorem dX12_isSolution_25 : decode cX12_isSolution 25 = .ok (.aload_n 0, 1) := by decide +kernel
theorem dX12_isSolution_26 : decode cX12_isSolution 26 = .ok (.getfield 44, 3) := by decide +kernel
theorem dX12_isSolution_29 : decode cX12_isSolution 29 = .ok (.iload_n 2, 1) := by decide +kernel
theorem dX12_isSolution_30 : decode cX12_isSolution 30 = .ok (.iaload, 1) := by decide +kernel
theorem dX12_isSolution_31 : decode cX12_isSolution 31 = .ok (.iconst (-1), 1) := by decide +kernel
theorem dX12_isSolution_32 : decode cX12_isSolution 32 = .ok (.if_icmp .eq 11, 3) := by decide +kernel
theorem dX12_isSolution_35 : decode cX12_isSolution 35 = .ok (.aload_n 0, 1) := by decide +kernel
theorem dX12_isSolution_36 : decode cX12_isSolution 36 = .ok (.iload_n 2, 1) := by decide +kernel
theorem dX12_isSolution_37 : decode cX12_isSolution 37 = .ok (.invokevirtual 163, 3) := by decide +kernel
theorem dX12_isSolution_40 : decode cX12_isSolution 40 = .ok (.ifCond .ne 7, 3) := by decide +kernel
theorem dX12_isSolution_43 : decode cX12_isSolution 43 = .ok (.iload_n 1, 1) := by decide +kernel
theorem dX12_isSolution_44 : decode cX12_isSolution 44 = .ok (.ifCond .eq 7, 3) := by decide +kernel
theorem dX12_isSolution_47 : decode cX12_isSolution 47 = .ok (.iconst 1, 1) := by decide +kernel
theorem dX12_isSolution_48 : decode cX12_isSolution 48 = .ok (.goto 4, 3) := by decide +kernel
theorem dX12_isSolution_51 : decode cX12_isSolution 51 = .ok (.iconst 0, 1) := by decide +kernel
theorem dX12_isSolution_52 : decode cX12_isSolution 52 = .ok (.istore_n 1, 1) := by decide +kernel
theorem dX12_isSolution_53 : decode cX12_isSolution 53 = .ok (.iinc 2 1, 3) := by decide +kernel
theorem dX12_isSolution_56 : decode cX12_isSolution 56 = .ok (.goto (-37), 3) := by decide +kernel
theorem dX12_isSolution_59 : decode cX12_isSolution 59 = .ok (.goto (-48), 3) := by decide +kernel
theorem dX12_isSolution_62 : decode cX12_isSolution 62 = .ok (.iconst 0, 1) := by decide +kernel
theorem dX12_isSolution_63 : decode cX12_isSolution 63 = .ok (.istore_n 2, 1) := by decide +kernel
theorem dX12_isSolution_64 : decode cX12_isSolution 64 = .ok (.iload_n 2, 1) := by decide +kernel
theorem dX12_isSolution_65 : decode cX12_isSolution 65 = .ok (.bipush 6, 2) := by decide +kernel
theorem dX12_isSolution_67 : decode cX12_isSolution 67 = .ok (.if_icmp .ge 29, 3) := by decide +kernel
theorem dX12_isSolution_70 : decode cX12_isSolution 70 = .ok (.aload_n 0, 1) := by decide +kernel
theorem dX12_isSolution_71 : decode cX12_isSolution 71 = .ok (.getfield 44, 3) := by decide +kernel
theorem dX12_isSolution_74 : decode cX12_isSolution 74 = .ok (.iload_n 2, 1) := by decide +kernel
theorem dX12_isSolution_75 : decode cX12_isSolution 75 = .ok (.iaload, 1) := by decide +kernel
theorem dX12_isSolution_76 : decode cX12_isSolution 76 = .ok (.iconst (-1), 1) := by decide +kernel
theorem dX12_isSolution_77 : decode cX12_isSolution 77 = .ok (.if_icmp .eq 13, 3) := by decide +kernel
theorem dX12_isSolution_80 : decode cX12_isSolution 80 = .ok (.aload_n 0, 1) := by decide +kernel
theorem dX12_isSolution_81 : decode cX12_isSolution 81 = .ok (.iload_n 2, 1) := by decide +kernel
theorem dX12_isSolution_82 : decode cX12_isSolution 82 = .ok (.invokevirtual 166, 3) := by decide +kernel
theorem dX12_isSolution_85 : decode cX12_isSolution 85 = .ok (.ifCond .ne 5, 3) := by decide +kernel
theorem dX12_isSolution_88 : decode cX12_isSolution 88 = .ok (.iconst 0, 1) := by decide +kernel
theorem dX12_isSolution_89 : decode cX12_isSolution 89 = .ok (.ireturn, 1) := by decide +kernel
theorem dX12_isSolution_90 : decode cX12_isSolution 90 = .ok (.iinc 2 1, 3) := by decide +kernel
theorem dX12_isSolution_93 : decode cX12_isSolution 93 = .ok (.goto (-29), 3) := by decide +kernel
theorem dX12_isSolution_96 : decode cX12_isSolution 96 = .ok (.iconst 1, 1) := by decide +kernel
theorem dX12_isSolution_97 : decode cX12_isSolution 97 = .ok (.istore_n 1, 1) := by decide +kernel
theorem dX12_isSolution_98 : decode cX12_isSolution 98 = .ok (.iload_n 1, 1) := by decide +kernel
theorem dX12_isSolution_99 : decode cX12_isSolution 99 = .ok (.ifCond .eq 59, 3) := by decide +kernel
theorem dX12_isSolution_102 : decode cX12_isSolution 102 = .ok (.iconst 0, 1) := by decide +kernel
theorem dX12_isSolution_103 : decode cX12_isSolution 103 = .ok (.istore_n 1, 1) := by decide +kernel
theorem dX12_isSolution_104 : decode cX12_isSolution 104 = .ok (.iconst 0, 1) := by decide +kernel
theorem dX12_isSolution_105 : decode cX12_isSolution 105 = .ok (.istore_n 2, 1) := by decide +kernel
theorem dX12_isSolution_106 : decode cX12_isSolution 106 = .ok (.iload_n 2, 1) := by decide +kernel
theorem dX12_isSolution_107 : decode cX12_isSolution 107 = .ok (.bipush 6, 2) := by decide +kernel
theorem dX12_isSolution_109 : decode cX12_isSolution 109 = .ok (.if_icmp .ge 46, 3) := by decide +kernel
theorem dX12_isSolution_112 : decode cX12_isSolution 112 = .ok (.aload_n 0, 1) := by decide +kernel
theorem dX12_isSolution_113 : decode cX12_isSolution 113 = .ok (.getfield 44, 3) := by decide +kernel
theorem dX12_isSolution_116 : decode cX12_isSolution 116 = .ok (.iload_n 2, 1) := by decide +kernel
theorem dX12_isSolution_117 : decode cX12_isSolution 117 = .ok (.iaload, 1) := by decide +kernel
theorem dX12_isSolution_118 : decode cX12_isSolution 118 = .ok (.iconst (-1), 1) := by decide +kernel
theorem dX12_isSolution_119 : decode cX12_isSolution 119 = .ok (.if_icmp .eq 20, 3) := by decide +kernel
theorem dX12_isSolution_122 : decode cX12_isSolution 122 = .ok (.aload_n 0, 1) := by decide +kernel
theorem dX12_isSolution_123 : decode cX12_isSolution 123 = .ok (.getfield 50, 3) := by decide +kernel
theorem dX12_isSolution_126 : decode cX12_isSolution 126 = .ok (.iload_n 2, 1) := by decide +kernel
theorem dX12_isSolution_127 : decode cX12_isSolution 127 = .ok (.baload, 1) := by decide +kernel
theorem dX12_isSolution_128 : decode cX12_isSolution 128 = .ok (.ifCond .eq 11, 3) := by decide +kernel
theorem dX12_isSolution_131 : decode cX12_isSolution 131 = .ok (.aload_n 0, 1) := by decide +kernel
theorem dX12_isSolution_132 : decode cX12_isSolution 132 = .ok (.iload_n 2, 1) := by decide +kernel
theorem dX12_isSolution_133 : decode cX12_isSolution 133 = .ok (.invokevirtual 169, 3) := by decide +kernel
theorem dX12_isSolution_136 : decode cX12_isSolution 136 = .ok (.ifCond .ne 7, 3) := by decide +kernel
theorem dX12_isSolution_139 : decode cX12_isSolution 139 = .ok (.iload_n 1, 1) := by decide +kernel
theorem dX12_isSolution_140 : decode cX12_isSolution 140 = .ok (.ifCond .eq 7, 3) := by decide +kernel
theorem dX12_isSolution_143 : decode cX12_isSolution 143 = .ok (.iconst 1, 1) := by decide +kernel
theorem dX12_isSolution_144 : decode cX12_isSolution 144 = .ok (.goto 4, 3) := by decide +kernel
theorem dX12_isSolution_147 : decode cX12_isSolution 147 = .ok (.iconst 0, 1) := by decide +kernel
theorem dX12_isSolution_148 : decode cX12_isSolution 148 = .ok (.istore_n 1, 1) := by decide +kernel
theorem dX12_isSolution_149 : decode cX12_isSolution 149 = .ok (.iinc 2 1, 3) := by decide +kernel
theorem dX12_isSolution_152 : decode cX12_isSolution 152 = .ok (.goto (-46), 3) := by decide +kernel
theorem dX12_isSolution_155 : decode cX12_isSolution 155 = .ok (.goto (-57), 3) := by decide +kernel
theorem dX12_isSolution_158 : decode cX12_isSolution 158 = .ok (.iconst 0, 1) := by decide +kernel
theorem dX12_isSolution_159 : decode cX12_isSolution 159 = .ok (.istore_n 2, 1) := by decide +kernel
theorem dX12_isSolution_160 : decode cX12_isSolution 160 = .ok (.iload_n 2, 1) := by decide +kernel
theorem dX12_isSolution_161 : decode cX12_isSolution 161 = .ok (.bipush 6, 2) := by decide +kernel
theorem dX12_isSolution_163 : decode cX12_isSolution 163 = .ok (.if_icmp .ge 30, 3) := by decide +kernel
theorem dX12_isSolution_166 : decode cX12_isSolution 166 = .ok (.aload_n 0, 1) := by decide +kernel
theorem dX12_isSolution_167 : decode cX12_isSolution 167 = .ok (.getfield 44, 3) := by decide +kernel
theorem dX12_isSolution_170 : decode cX12_isSolution 170 = .ok (.iload_n 2, 1) := by decide +kernel
theorem dX12_isSolution_171 : decode cX12_isSolution 171 = .ok (.iaload, 1) := by decide +kernel
theorem dX12_isSolution_172 : decode cX12_isSolution 172 = .ok (.iconst (-1), 1) := by decide +kernel
theorem dX12_isSolution_173 : decode cX12_isSolution 173 = .ok (.if_icmp .eq 14, 3) := by decide +kernel
theorem dX12_isSolution_176 : decode cX12_isSolution 176 = .ok (.aload_n 0, 1) := by decide +kernel
theorem dX12_isSolution_177 : decode cX12_isSolution 177 = .ok (.getfield 50, 3) := by decide +kernel
theorem dX12_isSolution_180 : decode cX12_isSolution 180 = .ok (.iload_n 2, 1) := by decide +kernel
theorem dX12_isSolution_181 : decode cX12_isSolution 181 = .ok (.baload, 1) := by decide +kernel
theorem dX12_isSolution_182 : decode cX12_isSolution 182 = .ok (.ifCond .ne 5, 3) := by decide +kernel
theorem dX12_isSolution_185 : decode cX12_isSolution 185 = .ok (.iconst 0, 1) := by decide +kernel
theorem dX12_isSolution_186 : decode cX12_isSolution 186 = .ok (.ireturn, 1) := by decide +kernel
theorem dX12_isSolution_187 : decode cX12_isSolution 187 = .ok (.iinc 2 1, 3) := by decide +kernel
theorem dX12_isSolution_190 : decode cX12_isSolution 190 = .ok (.goto (-30), 3) := by decide +kernel
theorem dX12_isSolution_193 : decode cX12_isSolution 193 = .ok (.iconst 1, 1) := by decide +kernel
theorem dX12_isSolution_194 : decode cX12_isSolution 194 = .ok (.ireturn, 1) := by decide +kernel
theorem dX12_isKept_0 : decode cX12_isKept 0 = .ok (.aload_n 0, 1) := by decide +kernel
theorem dX12_isKept_1 : decode cX12_isKept 1 = .ok (.getfield 35, 3) := by decide +kernel
theorem dX12_isKept_4 : decode cX12_isKept 4 = .ok (.iload_n 1, 1) := by decide +kernel
theorem dX12_isKept_5 : decode cX12_isKept 5 = .ok (.iaload, 1) := by decide +kernel
theorem dX12_isKept_6 : decode cX12_isKept 6 = .ok (.iconst (-1), 1) := by decide +kernel
theorem dX12_isKept_7 : decode cX12_isKept 7 = .ok (.if_icmp .eq 18, 3) := by decide +kernel
theorem dX12_isKept_10 : decode cX12_isKept 10 = .ok (.aload_n 0, 1) := by decide +kernel
theorem dX12_isKept_11 : decode cX12_isKept 11 = .ok (.getfield 172, 3) := by decide +kernel
theorem dX12_isKept_14 : decode cX12_isKept 14 = .ok (.iload_n 1, 1) := by decide +kernel
theorem dX12_isKept_15 : decode cX12_isKept 15 = .ok (.ishr, 1) := by decide +kernel
theorem dX12_isKept_16 : decode cX12_isKept 16 = .ok (.iconst 1, 1) := by decide +kernel
theorem dX12_isKept_17 : decode cX12_isKept 17 = .ok (.iand, 1) := by decide +kernel
theorem dX12_isKept_18 : decode cX12_isKept 18 = .ok (.ifCond .ne 7, 3) := by decide +kernel
theorem dX12_isKept_21 : decode cX12_isKept 21 = .ok (.iconst 1, 1) := by decide +kernel
theorem dX12_isKept_22 : decode cX12_isKept 22 = .ok (.goto 4, 3) := by decide +kernel
theorem dX12_isKept_25 : decode cX12_isKept 25 = .ok (.iconst 0, 1) := by decide +kernel
theorem dX12_isKept_26 : decode cX12_isKept 26 = .ok (.ireturn, 1) := by decide +kernel
theorem dX12_changes_0 : decode cX12_changes 0 = .ok (.iconst 0, 1) := by decide +kernel
theorem dX12_changes_1 : decode cX12_changes 1 = .ok (.istore_n 1, 1) := by decide +kernel
theorem dX12_changes_2 : decode cX12_changes 2 = .ok (.iconst 0, 1) := by decide +kernel
theorem dX12_changes_3 : decode cX12_changes 3 = .ok (.istore_n 2, 1) := by decide +kernel
theorem dX12_changes_4 : decode cX12_changes 4 = .ok (.iload_n 2, 1) := by decide +kernel
theorem dX12_changes_5 : decode cX12_changes 5 = .ok (.bipush 6, 2) := by decide +kernel
theorem dX12_changes_7 : decode cX12_changes 7 = .ok (.if_icmp .ge 40, 3) := by decide +kernel
theorem dX12_changes_10 : decode cX12_changes 10 = .ok (.iload_n 1, 1) := by decide +kernel
theorem dX12_changes_11 : decode cX12_changes 11 = .ok (.aload_n 0, 1) := by decide +kernel
theorem dX12_changes_12 : decode cX12_changes 12 = .ok (.iload_n 2, 1) := by decide +kernel
theorem dX12_changes_13 : decode cX12_changes 13 = .ok (.invokevirtual 175, 3) := by decide +kernel
theorem dX12_changes_16 : decode cX12_changes 16 = .ok (.ifCond .eq 22, 3) := by decide +kernel
theorem dX12_changes_19 : decode cX12_changes 19 = .ok (.aload_n 0, 1) := by decide +kernel
theorem dX12_changes_20 : decode cX12_changes 20 = .ok (.getfield 44, 3) := by decide +kernel
theorem dX12_changes_23 : decode cX12_changes 23 = .ok (.iload_n 2, 1) := by decide +kernel
theorem dX12_changes_24 : decode cX12_changes 24 = .ok (.iaload, 1) := by decide +kernel
theorem dX12_changes_25 : decode cX12_changes 25 = .ok (.aload_n 0, 1) := by decide +kernel
theorem dX12_changes_26 : decode cX12_changes 26 = .ok (.getfield 35, 3) := by decide +kernel
theorem dX12_changes_29 : decode cX12_changes 29 = .ok (.iload_n 2, 1) := by decide +kernel
theorem dX12_changes_30 : decode cX12_changes 30 = .ok (.iaload, 1) := by decide +kernel
theorem dX12_changes_31 : decode cX12_changes 31 = .ok (.if_icmp .eq 7, 3) := by decide +kernel
theorem dX12_changes_34 : decode cX12_changes 34 = .ok (.iconst 1, 1) := by decide +kernel
theorem dX12_changes_35 : decode cX12_changes 35 = .ok (.goto 4, 3) := by decide +kernel
theorem dX12_changes_38 : decode cX12_changes 38 = .ok (.iconst 0, 1) := by decide +kernel
theorem dX12_changes_39 : decode cX12_changes 39 = .ok (.iadd, 1) := by decide +kernel
theorem dX12_changes_40 : decode cX12_changes 40 = .ok (.istore_n 1, 1) := by decide +kernel
theorem dX12_changes_41 : decode cX12_changes 41 = .ok (.iinc 2 1, 3) := by decide +kernel
theorem dX12_changes_44 : decode cX12_changes 44 = .ok (.goto (-40), 3) := by decide +kernel
theorem dX12_changes_47 : decode cX12_changes 47 = .ok (.iload_n 1, 1) := by decide +kernel
theorem dX12_changes_48 : decode cX12_changes 48 = .ok (.ireturn, 1) := by decide +kernel
theorem dX12_isWished_0 : decode cX12_isWished 0 = .ok (.aload_n 0, 1) := by decide +kernel
theorem dX12_isWished_1 : decode cX12_isWished 1 = .ok (.iload_n 1, 1) := by decide +kernel
theorem dX12_isWished_2 : decode cX12_isWished 2 = .ok (.invokevirtual 175, 3) := by decide +kernel
theorem dX12_isWished_5 : decode cX12_isWished 5 = .ok (.ifCond .eq 52, 3) := by decide +kernel
theorem dX12_isWished_8 : decode cX12_isWished 8 = .ok (.iload_n 2, 1) := by decide +kernel
theorem dX12_isWished_9 : decode cX12_isWished 9 = .ok (.aload_n 0, 1) := by decide +kernel
theorem dX12_isWished_10 : decode cX12_isWished 10 = .ok (.getfield 35, 3) := by decide +kernel
theorem dX12_isWished_13 : decode cX12_isWished 13 = .ok (.iload_n 1, 1) := by decide +kernel
theorem dX12_isWished_14 : decode cX12_isWished 14 = .ok (.iaload, 1) := by decide +kernel
theorem dX12_isWished_15 : decode cX12_isWished 15 = .ok (.if_icmp .ne 7, 3) := by decide +kernel
theorem dX12_isWished_18 : decode cX12_isWished 18 = .ok (.iconst 1, 1) := by decide +kernel
theorem dX12_isWished_19 : decode cX12_isWished 19 = .ok (.goto 4, 3) := by decide +kernel
theorem dX12_isWished_22 : decode cX12_isWished 22 = .ok (.iconst 0, 1) := by decide +kernel
theorem dX12_isWished_23 : decode cX12_isWished 23 = .ok (.iload_n 3, 1) := by decide +kernel
theorem dX12_isWished_24 : decode cX12_isWished 24 = .ok (.aload_n 0, 1) := by decide +kernel
theorem dX12_isWished_25 : decode cX12_isWished 25 = .ok (.getfield 35, 3) := by decide +kernel
theorem dX12_isWished_28 : decode cX12_isWished 28 = .ok (.iload_n 1, 1) := by decide +kernel
theorem dX12_isWished_29 : decode cX12_isWished 29 = .ok (.iaload, 1) := by decide +kernel
theorem dX12_isWished_30 : decode cX12_isWished 30 = .ok (.if_icmp .ne 7, 3) := by decide +kernel
theorem dX12_isWished_33 : decode cX12_isWished 33 = .ok (.iconst 1, 1) := by decide +kernel
theorem dX12_isWished_34 : decode cX12_isWished 34 = .ok (.goto 4, 3) := by decide +kernel
theorem dX12_isWished_37 : decode cX12_isWished 37 = .ok (.iconst 0, 1) := by decide +kernel
theorem dX12_isWished_38 : decode cX12_isWished 38 = .ok (.if_icmp .eq 19, 3) := by decide +kernel
theorem dX12_isWished_41 : decode cX12_isWished 41 = .ok (.iload_n 2, 1) := by decide +kernel
theorem dX12_isWished_42 : decode cX12_isWished 42 = .ok (.aload_n 0, 1) := by decide +kernel
theorem dX12_isWished_43 : decode cX12_isWished 43 = .ok (.getfield 35, 3) := by decide +kernel
theorem dX12_isWished_46 : decode cX12_isWished 46 = .ok (.iload_n 1, 1) := by decide +kernel
theorem dX12_isWished_47 : decode cX12_isWished 47 = .ok (.iaload, 1) := by decide +kernel
theorem dX12_isWished_48 : decode cX12_isWished 48 = .ok (.if_icmp .ne 7, 3) := by decide +kernel
theorem dX12_isWished_51 : decode cX12_isWished 51 = .ok (.iconst 1, 1) := by decide +kernel
theorem dX12_isWished_52 : decode cX12_isWished 52 = .ok (.goto 4, 3) := by decide +kernel
theorem dX12_isWished_55 : decode cX12_isWished 55 = .ok (.iconst 0, 1) := by decide +kernel
theorem dX12_isWished_56 : decode cX12_isWished 56 = .ok (.ireturn, 1) := by decide +kernel
theorem dX12_isWished_57 : decode cX12_isWished 57 = .ok (.iload_n 3, 1) := by decide +kernel
theorem dX12_isWished_58 : decode cX12_isWished 58 = .ok (.iconst (-1), 1) := by decide +kernel
theorem dX12_isWished_59 : decode cX12_isWished 59 = .ok (.if_icmp .eq 17, 3) := by decide +kernel
theorem dX12_isWished_62 : decode cX12_isWished 62 = .ok (.iload_n 2, 1) := by decide +kernel
theorem dX12_isWished_63 : decode cX12_isWished 63 = .ok (.iconst (-1), 1) := by decide +kernel
theorem dX12_isWished_64 : decode cX12_isWished 64 = .ok (.if_icmp .eq 16, 3) := by decide +kernel
theorem dX12_isWished_67 : decode cX12_isWished 67 = .ok (.aload_n 0, 1) := by decide +kernel
theorem dX12_isWished_68 : decode cX12_isWished 68 = .ok (.iload_n 2, 1) := by decide +kernel
theorem dX12_isWished_69 : decode cX12_isWished 69 = .ok (.iload_n 3, 1) := by decide +kernel
theorem dX12_isWished_70 : decode cX12_isWished 70 = .ok (.invokevirtual 111, 3) := by decide +kernel
theorem dX12_isWished_73 : decode cX12_isWished 73 = .ok (.ifCond .le 7, 3) := by decide +kernel
theorem dX12_isWished_76 : decode cX12_isWished 76 = .ok (.iconst 1, 1) := by decide +kernel
theorem dX12_isWished_77 : decode cX12_isWished 77 = .ok (.goto 4, 3) := by decide +kernel
theorem dX12_isWished_80 : decode cX12_isWished 80 = .ok (.iconst 0, 1) := by decide +kernel
theorem dX12_isWished_81 : decode cX12_isWished 81 = .ok (.ireturn, 1) := by decide +kernel
theorem dX12_goesAhead_0 : decode cX12_goesAhead 0 = .ok (.aload_n 0, 1) := by decide +kernel
theorem dX12_goesAhead_1 : decode cX12_goesAhead 1 = .ok (.invokevirtual 178, 3) := by decide +kernel
theorem dX12_goesAhead_4 : decode cX12_goesAhead 4 = .ok (.istore_n 1, 1) := by decide +kernel
theorem dX12_goesAhead_5 : decode cX12_goesAhead 5 = .ok (.aload_n 0, 1) := by decide +kernel
theorem dX12_goesAhead_6 : decode cX12_goesAhead 6 = .ok (.getfield 181, 3) := by decide +kernel
theorem dX12_goesAhead_9 : decode cX12_goesAhead 9 = .ok (.ifCond .eq 11, 3) := by decide +kernel
theorem dX12_goesAhead_12 : decode cX12_goesAhead 12 = .ok (.iload_n 1, 1) := by decide +kernel
theorem dX12_goesAhead_13 : decode cX12_goesAhead 13 = .ok (.aload_n 0, 1) := by decide +kernel
theorem dX12_goesAhead_14 : decode cX12_goesAhead 14 = .ok (.getfield 184, 3) := by decide +kernel
theorem dX12_goesAhead_17 : decode cX12_goesAhead 17 = .ok (.if_icmp .eq 24, 3) := by decide +kernel
theorem dX12_goesAhead_20 : decode cX12_goesAhead 20 = .ok (.aload_n 0, 1) := by decide +kernel
theorem dX12_goesAhead_21 : decode cX12_goesAhead 21 = .ok (.getfield 181, 3) := by decide +kernel
theorem dX12_goesAhead_24 : decode cX12_goesAhead 24 = .ok (.ifCond .eq 11, 3) := by decide +kernel
theorem dX12_goesAhead_27 : decode cX12_goesAhead 27 = .ok (.iload_n 1, 1) := by decide +kernel
theorem dX12_goesAhead_28 : decode cX12_goesAhead 28 = .ok (.aload_n 0, 1) := by decide +kernel
theorem dX12_goesAhead_29 : decode cX12_goesAhead 29 = .ok (.getfield 184, 3) := by decide +kernel
theorem dX12_goesAhead_32 : decode cX12_goesAhead 32 = .ok (.if_icmp .ge 7, 3) := by decide +kernel
theorem dX12_goesAhead_35 : decode cX12_goesAhead 35 = .ok (.iconst 1, 1) := by decide +kernel
theorem dX12_goesAhead_36 : decode cX12_goesAhead 36 = .ok (.goto 4, 3) := by decide +kernel
theorem dX12_goesAhead_39 : decode cX12_goesAhead 39 = .ok (.iconst 0, 1) := by decide +kernel
theorem dX12_goesAhead_40 : decode cX12_goesAhead 40 = .ok (.ireturn, 1) := by decide +kernel
theorem dX12_goesAhead_41 : decode cX12_goesAhead 41 = .ok (.iconst 0, 1) := by decide +kernel
theorem dX12_goesAhead_42 : decode cX12_goesAhead 42 = .ok (.istore_n 2, 1) := by decide +kernel
theorem dX12_goesAhead_43 : decode cX12_goesAhead 43 = .ok (.iload_n 2, 1) := by decide +kernel
theorem dX12_goesAhead_44 : decode cX12_goesAhead 44 = .ok (.bipush 6, 2) := by decide +kernel
theorem dX12_goesAhead_46 : decode cX12_goesAhead 46 = .ok (.if_icmp .ge 42, 3) := by decide +kernel
theorem dX12_goesAhead_49 : decode cX12_goesAhead 49 = .ok (.aload_n 0, 1) := by decide +kernel
theorem dX12_goesAhead_50 : decode cX12_goesAhead 50 = .ok (.getfield 44, 3) := by decide +kernel
theorem dX12_goesAhead_53 : decode cX12_goesAhead 53 = .ok (.iload_n 2, 1) := by decide +kernel
theorem dX12_goesAhead_54 : decode cX12_goesAhead 54 = .ok (.iaload, 1) := by decide +kernel
theorem dX12_goesAhead_55 : decode cX12_goesAhead 55 = .ok (.aload_n 0, 1) := by decide +kernel
theorem dX12_goesAhead_56 : decode cX12_goesAhead 56 = .ok (.getfield 66, 3) := by decide +kernel
theorem dX12_goesAhead_59 : decode cX12_goesAhead 59 = .ok (.iload_n 2, 1) := by decide +kernel
theorem dX12_goesAhead_60 : decode cX12_goesAhead 60 = .ok (.iaload, 1) := by decide +kernel
theorem dX12_goesAhead_61 : decode cX12_goesAhead 61 = .ok (.if_icmp .eq 21, 3) := by decide +kernel
theorem dX12_goesAhead_64 : decode cX12_goesAhead 64 = .ok (.aload_n 0, 1) := by decide +kernel
theorem dX12_goesAhead_65 : decode cX12_goesAhead 65 = .ok (.iload_n 2, 1) := by decide +kernel
theorem dX12_goesAhead_66 : decode cX12_goesAhead 66 = .ok (.aload_n 0, 1) := by decide +kernel
theorem dX12_goesAhead_67 : decode cX12_goesAhead 67 = .ok (.getfield 44, 3) := by decide +kernel
theorem dX12_goesAhead_70 : decode cX12_goesAhead 70 = .ok (.iload_n 2, 1) := by decide +kernel
theorem dX12_goesAhead_71 : decode cX12_goesAhead 71 = .ok (.iaload, 1) := by decide +kernel
theorem dX12_goesAhead_72 : decode cX12_goesAhead 72 = .ok (.aload_n 0, 1) := by decide +kernel
theorem dX12_goesAhead_73 : decode cX12_goesAhead 73 = .ok (.getfield 66, 3) := by decide +kernel
theorem dX12_goesAhead_76 : decode cX12_goesAhead 76 = .ok (.iload_n 2, 1) := by decide +kernel
theorem dX12_goesAhead_77 : decode cX12_goesAhead 77 = .ok (.iaload, 1) := by decide +kernel
theorem dX12_goesAhead_78 : decode cX12_goesAhead 78 = .ok (.invokevirtual 187, 3) := by decide +kernel
theorem dX12_goesAhead_81 : decode cX12_goesAhead 81 = .ok (.ireturn, 1) := by decide +kernel
theorem dX12_goesAhead_82 : decode cX12_goesAhead 82 = .ok (.iinc 2 1, 3) := by decide +kernel
theorem dX12_goesAhead_85 : decode cX12_goesAhead 85 = .ok (.goto (-42), 3) := by decide +kernel
theorem dX12_goesAhead_88 : decode cX12_goesAhead 88 = .ok (.iconst 0, 1) := by decide +kernel
theorem dX12_goesAhead_89 : decode cX12_goesAhead 89 = .ok (.ireturn, 1) := by decide +kernel
theorem dX12_find_0 : decode cX12_find 0 = .ok (.aload_n 0, 1) := by decide +kernel
theorem dX12_find_1 : decode cX12_find 1 = .ok (.getfield 104, 3) := by decide +kernel
theorem dX12_find_4 : decode cX12_find 4 = .ok (.ifCond .eq 4, 3) := by decide +kernel
theorem dX12_find_7 : decode cX12_find 7 = .ok (.return_, 1) := by decide +kernel
theorem dX12_find_8 : decode cX12_find 8 = .ok (.aload_n 0, 1) := by decide +kernel
theorem dX12_find_9 : decode cX12_find 9 = .ok (.aload_n 0, 1) := by decide +kernel
theorem dX12_find_10 : decode cX12_find 10 = .ok (.aload_n 0, 1) := by decide +kernel
theorem dX12_find_11 : decode cX12_find 11 = .ok (.getfield 190, 3) := by decide +kernel
theorem dX12_find_14 : decode cX12_find 14 = .ok (.invokevirtual 193, 3) := by decide +kernel
theorem dX12_find_17 : decode cX12_find 17 = .ok (.putfield 137, 3) := by decide +kernel
theorem dX12_find_20 : decode cX12_find 20 = .ok (.aload_n 0, 1) := by decide +kernel
theorem dX12_find_21 : decode cX12_find 21 = .ok (.iconst (-1), 1) := by decide +kernel
theorem dX12_find_22 : decode cX12_find 22 = .ok (.putfield 62, 3) := by decide +kernel
theorem dX12_find_25 : decode cX12_find 25 = .ok (.aload_n 0, 1) := by decide +kernel
theorem dX12_find_26 : decode cX12_find 26 = .ok (.iconst 0, 1) := by decide +kernel
theorem dX12_find_27 : decode cX12_find 27 = .ok (.putfield 181, 3) := by decide +kernel
theorem dX12_find_30 : decode cX12_find 30 = .ok (.aload_n 0, 1) := by decide +kernel
theorem dX12_find_31 : decode cX12_find 31 = .ok (.invokevirtual 196, 3) := by decide +kernel
theorem dX12_find_34 : decode cX12_find 34 = .ok (.aload_n 0, 1) := by decide +kernel
theorem dX12_find_35 : decode cX12_find 35 = .ok (.iconst 1, 1) := by decide +kernel
theorem dX12_find_36 : decode cX12_find 36 = .ok (.invokevirtual 199, 3) := by decide +kernel
theorem dX12_find_39 : decode cX12_find 39 = .ok (.istore_n 1, 1) := by decide +kernel
theorem dX12_find_40 : decode cX12_find 40 = .ok (.iload_n 1, 1) := by decide +kernel
theorem dX12_find_41 : decode cX12_find 41 = .ok (.ifCond .eq 96, 3) := by decide +kernel
theorem dX12_find_44 : decode cX12_find 44 = .ok (.aload_n 0, 1) := by decide +kernel
theorem dX12_find_45 : decode cX12_find 45 = .ok (.invokevirtual 203, 3) := by decide +kernel
theorem dX12_find_48 : decode cX12_find 48 = .ok (.ifCond .eq 80, 3) := by decide +kernel
theorem dX12_find_51 : decode cX12_find 51 = .ok (.aload_n 0, 1) := by decide +kernel
theorem dX12_find_52 : decode cX12_find 52 = .ok (.invokevirtual 206, 3) := by decide +kernel
theorem dX12_find_55 : decode cX12_find 55 = .ok (.ifCond .eq 63, 3) := by decide +kernel
theorem dX12_find_58 : decode cX12_find 58 = .ok (.aload_n 0, 1) := by decide +kernel
theorem dX12_find_59 : decode cX12_find 59 = .ok (.aload_n 0, 1) := by decide +kernel
theorem dX12_find_60 : decode cX12_find 60 = .ok (.invokevirtual 178, 3) := by decide +kernel
theorem dX12_find_63 : decode cX12_find 63 = .ok (.putfield 184, 3) := by decide +kernel
theorem dX12_find_66 : decode cX12_find 66 = .ok (.iconst 0, 1) := by decide +kernel
theorem dX12_find_67 : decode cX12_find 67 = .ok (.istore_n 2, 1) := by decide +kernel
theorem dX12_find_68 : decode cX12_find 68 = .ok (.iload_n 2, 1) := by decide +kernel
theorem dX12_find_69 : decode cX12_find 69 = .ok (.bipush 6, 2) := by decide +kernel
theorem dX12_find_71 : decode cX12_find 71 = .ok (.if_icmp .ge 47, 3) := by decide +kernel
theorem dX12_find_74 : decode cX12_find 74 = .ok (.aload_n 0, 1) := by decide +kernel
theorem dX12_find_75 : decode cX12_find 75 = .ok (.getfield 66, 3) := by decide +kernel
theorem dX12_find_78 : decode cX12_find 78 = .ok (.iload_n 2, 1) := by decide +kernel
theorem dX12_find_79 : decode cX12_find 79 = .ok (.aload_n 0, 1) := by decide +kernel
theorem dX12_find_80 : decode cX12_find 80 = .ok (.getfield 44, 3) := by decide +kernel
theorem dX12_find_83 : decode cX12_find 83 = .ok (.iload_n 2, 1) := by decide +kernel
theorem dX12_find_84 : decode cX12_find 84 = .ok (.iaload, 1) := by decide +kernel
theorem dX12_find_85 : decode cX12_find 85 = .ok (.iastore, 1) := by decide +kernel
theorem dX12_find_86 : decode cX12_find 86 = .ok (.aload_n 0, 1) := by decide +kernel
theorem dX12_find_87 : decode cX12_find 87 = .ok (.getfield 69, 3) := by decide +kernel
theorem dX12_find_90 : decode cX12_find 90 = .ok (.iload_n 2, 1) := by decide +kernel
theorem dX12_find_91 : decode cX12_find 91 = .ok (.aload_n 0, 1) := by decide +kernel
theorem dX12_find_92 : decode cX12_find 92 = .ok (.getfield 44, 3) := by decide +kernel
theorem dX12_find_95 : decode cX12_find 95 = .ok (.iload_n 2, 1) := by decide +kernel
theorem dX12_find_96 : decode cX12_find 96 = .ok (.iaload, 1) := by decide +kernel
theorem dX12_find_97 : decode cX12_find 97 = .ok (.iconst (-1), 1) := by decide +kernel
theorem dX12_find_98 : decode cX12_find 98 = .ok (.if_icmp .ne 7, 3) := by decide +kernel
theorem dX12_find_101 : decode cX12_find 101 = .ok (.iconst 0, 1) := by decide +kernel
theorem dX12_find_102 : decode cX12_find 102 = .ok (.goto 9, 3) := by decide +kernel
theorem dX12_find_105 : decode cX12_find 105 = .ok (.aload_n 0, 1) := by decide +kernel
theorem dX12_find_106 : decode cX12_find 106 = .ok (.getfield 47, 3) := by decide +kernel
theorem dX12_find_109 : decode cX12_find 109 = .ok (.iload_n 2, 1) := by decide +kernel
theorem dX12_find_110 : decode cX12_find 110 = .ok (.iaload, 1) := by decide +kernel
theorem dX12_find_111 : decode cX12_find 111 = .ok (.iastore, 1) := by decide +kernel
theorem dX12_find_112 : decode cX12_find 112 = .ok (.iinc 2 1, 3) := by decide +kernel
theorem dX12_find_115 : decode cX12_find 115 = .ok (.goto (-47), 3) := by decide +kernel
theorem dX12_find_118 : decode cX12_find 118 = .ok (.aload_n 0, 1) := by decide +kernel
theorem dX12_find_119 : decode cX12_find 119 = .ok (.dup, 1) := by decide +kernel
theorem dX12_find_120 : decode cX12_find 120 = .ok (.getfield 181, 3) := by decide +kernel
theorem dX12_find_123 : decode cX12_find 123 = .ok (.iconst 1, 1) := by decide +kernel
theorem dX12_find_124 : decode cX12_find 124 = .ok (.iadd, 1) := by decide +kernel
theorem dX12_find_125 : decode cX12_find 125 = .ok (.putfield 181, 3) := by decide +kernel
theorem dX12_find_128 : decode cX12_find 128 = .ok (.aload_n 0, 1) := by decide +kernel
theorem dX12_find_129 : decode cX12_find 129 = .ok (.iconst 0, 1) := by decide +kernel
theorem dX12_find_130 : decode cX12_find 130 = .ok (.invokevirtual 199, 3) := by decide +kernel
theorem dX12_find_133 : decode cX12_find 133 = .ok (.istore_n 1, 1) := by decide +kernel
theorem dX12_find_134 : decode cX12_find 134 = .ok (.goto (-94), 3) := by decide +kernel
theorem dX12_find_137 : decode cX12_find 137 = .ok (.aload_n 0, 1) := by decide +kernel
theorem dX12_find_138 : decode cX12_find 138 = .ok (.iconst 1, 1) := by decide +kernel
theorem dX12_find_139 : decode cX12_find 139 = .ok (.putfield 104, 3) := by decide +kernel
theorem dX12_find_142 : decode cX12_find 142 = .ok (.return_, 1) := by decide +kernel
theorem dX12_isSolvable_0 : decode cX12_isSolvable 0 = .ok (.aload_n 0, 1) := by decide +kernel
theorem dX12_isSolvable_1 : decode cX12_isSolvable 1 = .ok (.iload_n 1, 1) := by decide +kernel
theorem dX12_isSolvable_2 : decode cX12_isSolvable 2 = .ok (.putfield 137, 3) := by decide +kernel
theorem dX12_isSolvable_5 : decode cX12_isSolvable 5 = .ok (.aload_n 0, 1) := by decide +kernel
theorem dX12_isSolvable_6 : decode cX12_isSolvable 6 = .ok (.iload_n 2, 1) := by decide +kernel
theorem dX12_isSolvable_7 : decode cX12_isSolvable 7 = .ok (.putfield 62, 3) := by decide +kernel
theorem dX12_isSolvable_10 : decode cX12_isSolvable 10 = .ok (.aload_n 0, 1) := by decide +kernel
theorem dX12_isSolvable_11 : decode cX12_isSolvable 11 = .ok (.invokevirtual 196, 3) := by decide +kernel
theorem dX12_isSolvable_14 : decode cX12_isSolvable 14 = .ok (.aload_n 0, 1) := by decide +kernel
theorem dX12_isSolvable_15 : decode cX12_isSolvable 15 = .ok (.iconst 1, 1) := by decide +kernel
theorem dX12_isSolvable_16 : decode cX12_isSolvable 16 = .ok (.invokevirtual 199, 3) := by decide +kernel
theorem dX12_isSolvable_19 : decode cX12_isSolvable 19 = .ok (.istore_n 3, 1) := by decide +kernel
theorem dX12_isSolvable_20 : decode cX12_isSolvable 20 = .ok (.iload_n 3, 1) := by decide +kernel
theorem dX12_isSolvable_21 : decode cX12_isSolvable 21 = .ok (.ifCond .eq 21, 3) := by decide +kernel
theorem dX12_isSolvable_24 : decode cX12_isSolvable 24 = .ok (.aload_n 0, 1) := by decide +kernel
theorem dX12_isSolvable_25 : decode cX12_isSolvable 25 = .ok (.invokevirtual 203, 3) := by decide +kernel
theorem dX12_isSolvable_28 : decode cX12_isSolvable 28 = .ok (.ifCond .eq 5, 3) := by decide +kernel
theorem dX12_isSolvable_31 : decode cX12_isSolvable 31 = .ok (.iconst 1, 1) := by decide +kernel
theorem dX12_isSolvable_32 : decode cX12_isSolvable 32 = .ok (.ireturn, 1) := by decide +kernel
theorem dX12_isSolvable_33 : decode cX12_isSolvable 33 = .ok (.aload_n 0, 1) := by decide +kernel
theorem dX12_isSolvable_34 : decode cX12_isSolvable 34 = .ok (.iconst 0, 1) := by decide +kernel
theorem dX12_isSolvable_35 : decode cX12_isSolvable 35 = .ok (.invokevirtual 199, 3) := by decide +kernel
theorem dX12_isSolvable_38 : decode cX12_isSolvable 38 = .ok (.istore_n 3, 1) := by decide +kernel
theorem dX12_isSolvable_39 : decode cX12_isSolvable 39 = .ok (.goto (-19), 3) := by decide +kernel
theorem dX12_isSolvable_42 : decode cX12_isSolvable 42 = .ok (.iconst 0, 1) := by decide +kernel
theorem dX12_isSolvable_43 : decode cX12_isSolvable 43 = .ok (.ireturn, 1) := by decide +kernel
theorem dX12_solve_0 : decode cX12_solve 0 = .ok (.aload_n 0, 1) := by decide +kernel
theorem dX12_solve_1 : decode cX12_solve 1 = .ok (.iload_n 1, 1) := by decide +kernel
theorem dX12_solve_2 : decode cX12_solve 2 = .ok (.iconst 0, 1) := by decide +kernel
theorem dX12_solve_3 : decode cX12_solve 3 = .ok (.bipush 7, 2) := by decide +kernel
theorem dX12_solve_5 : decode cX12_solve 5 = .ok (.invokestatic 75, 3) := by decide +kernel
theorem dX12_solve_8 : decode cX12_solve 8 = .ok (.ifCond .eq 17, 3) := by decide +kernel
theorem dX12_solve_11 : decode cX12_solve 11 = .ok (.iload_n 2, 1) := by decide +kernel
theorem dX12_solve_12 : decode cX12_solve 12 = .ok (.iconst 0, 1) := by decide +kernel
theorem dX12_solve_13 : decode cX12_solve 13 = .ok (.bipush 63, 2) := by decide +kernel
theorem dX12_solve_15 : decode cX12_solve 15 = .ok (.invokestatic 75, 3) := by decide +kernel
theorem dX12_solve_18 : decode cX12_solve 18 = .ok (.ifCond .eq 7, 3) := by decide +kernel
theorem dX12_solve_21 : decode cX12_solve 21 = .ok (.iconst 0, 1) := by decide +kernel
theorem dX12_solve_22 : decode cX12_solve 22 = .ok (.goto 4, 3) := by decide +kernel
theorem dX12_solve_25 : decode cX12_solve 25 = .ok (.iconst 1, 1) := by decide +kernel
theorem dX12_solve_26 : decode cX12_solve 26 = .ok (.invokevirtual 101, 3) := by decide +kernel
theorem dX12_solve_29 : decode cX12_solve 29 = .ok (.ifCond .ne 5, 3) := by decide +kernel
theorem dX12_solve_32 : decode cX12_solve 32 = .ok (.iconst 0, 1) := by decide +kernel
theorem dX12_solve_33 : decode cX12_solve 33 = .ok (.ireturn, 1) := by decide +kernel
theorem dX12_solve_34 : decode cX12_solve 34 = .ok (.aload_n 0, 1) := by decide +kernel
theorem dX12_solve_35 : decode cX12_solve 35 = .ok (.iload_n 1, 1) := by decide +kernel
theorem dX12_solve_36 : decode cX12_solve 36 = .ok (.putfield 190, 3) := by decide +kernel
theorem dX12_solve_39 : decode cX12_solve 39 = .ok (.aload_n 0, 1) := by decide +kernel
theorem dX12_solve_40 : decode cX12_solve 40 = .ok (.iload_n 2, 1) := by decide +kernel
theorem dX12_solve_41 : decode cX12_solve 41 = .ok (.putfield 172, 3) := by decide +kernel
theorem dX12_solve_44 : decode cX12_solve 44 = .ok (.aload_n 0, 1) := by decide +kernel
theorem dX12_solve_45 : decode cX12_solve 45 = .ok (.iconst 0, 1) := by decide +kernel
theorem dX12_solve_46 : decode cX12_solve 46 = .ok (.putfield 104, 3) := by decide +kernel
theorem dX12_solve_49 : decode cX12_solve 49 = .ok (.aload_n 0, 1) := by decide +kernel
theorem dX12_solve_50 : decode cX12_solve 50 = .ok (.invokevirtual 209, 3) := by decide +kernel
theorem dX12_solve_53 : decode cX12_solve 53 = .ok (.iconst 0, 1) := by decide +kernel
theorem dX12_solve_54 : decode cX12_solve 54 = .ok (.istore_n 3, 1) := by decide +kernel
theorem dX12_solve_55 : decode cX12_solve 55 = .ok (.iconst 0, 1) := by decide +kernel
theorem dX12_solve_56 : decode cX12_solve 56 = .ok (.istore 4, 2) := by decide +kernel
theorem dX12_solve_58 : decode cX12_solve 58 = .ok (.iload 4, 2) := by decide +kernel
theorem dX12_solve_60 : decode cX12_solve 60 = .ok (.bipush 6, 2) := by decide +kernel
theorem dX12_solve_62 : decode cX12_solve 62 = .ok (.if_icmp .ge 28, 3) := by decide +kernel
theorem dX12_solve_65 : decode cX12_solve 65 = .ok (.iload_n 3, 1) := by decide +kernel
theorem dX12_solve_66 : decode cX12_solve 66 = .ok (.aload_n 0, 1) := by decide +kernel
theorem dX12_solve_67 : decode cX12_solve 67 = .ok (.getfield 66, 3) := by decide +kernel
theorem dX12_solve_70 : decode cX12_solve 70 = .ok (.iload 4, 2) := by decide +kernel
theorem dX12_solve_72 : decode cX12_solve 72 = .ok (.iaload, 1) := by decide +kernel
theorem dX12_solve_73 : decode cX12_solve 73 = .ok (.iconst (-1), 1) := by decide +kernel
theorem dX12_solve_74 : decode cX12_solve 74 = .ok (.if_icmp .ne 7, 3) := by decide +kernel
theorem dX12_solve_77 : decode cX12_solve 77 = .ok (.iconst 0, 1) := by decide +kernel
theorem dX12_solve_78 : decode cX12_solve 78 = .ok (.goto 4, 3) := by decide +kernel
theorem dX12_solve_81 : decode cX12_solve 81 = .ok (.iconst 1, 1) := by decide +kernel
theorem dX12_solve_82 : decode cX12_solve 82 = .ok (.iadd, 1) := by decide +kernel
theorem dX12_solve_83 : decode cX12_solve 83 = .ok (.istore_n 3, 1) := by decide +kernel
theorem dX12_solve_84 : decode cX12_solve 84 = .ok (.iinc 4 1, 3) := by decide +kernel
theorem dX12_solve_87 : decode cX12_solve 87 = .ok (.goto (-29), 3) := by decide +kernel
theorem dX12_solve_90 : decode cX12_solve 90 = .ok (.aload_n 0, 1) := by decide +kernel
theorem dX12_solve_91 : decode cX12_solve 91 = .ok (.getfield 181, 3) := by decide +kernel
theorem dX12_solve_94 : decode cX12_solve 94 = .ok (.ifCond .ne 7, 3) := by decide +kernel
theorem dX12_solve_97 : decode cX12_solve 97 = .ok (.iconst (-1), 1) := by decide +kernel
theorem dX12_solve_98 : decode cX12_solve 98 = .ok (.goto 4, 3) := by decide +kernel
theorem dX12_solve_101 : decode cX12_solve 101 = .ok (.iload_n 3, 1) := by decide +kernel
theorem dX12_solve_102 : decode cX12_solve 102 = .ok (.ireturn, 1) := by decide +kernel
theorem dX12_chosenOf_0 : decode cX12_chosenOf 0 = .ok (.aload_n 0, 1) := by decide +kernel
theorem dX12_chosenOf_1 : decode cX12_chosenOf 1 = .ok (.invokevirtual 209, 3) := by decide +kernel
theorem dX12_chosenOf_4 : decode cX12_chosenOf 4 = .ok (.aload_n 0, 1) := by decide +kernel
theorem dX12_chosenOf_5 : decode cX12_chosenOf 5 = .ok (.getfield 181, 3) := by decide +kernel
theorem dX12_chosenOf_8 : decode cX12_chosenOf 8 = .ok (.ifCond .ne 7, 3) := by decide +kernel
theorem dX12_chosenOf_11 : decode cX12_chosenOf 11 = .ok (.iconst (-1), 1) := by decide +kernel
theorem dX12_chosenOf_12 : decode cX12_chosenOf 12 = .ok (.goto 9, 3) := by decide +kernel
theorem dX12_chosenOf_15 : decode cX12_chosenOf 15 = .ok (.aload_n 0, 1) := by decide +kernel
theorem dX12_chosenOf_16 : decode cX12_chosenOf 16 = .ok (.getfield 66, 3) := by decide +kernel
theorem dX12_chosenOf_19 : decode cX12_chosenOf 19 = .ok (.iload_n 1, 1) := by decide +kernel
theorem dX12_chosenOf_20 : decode cX12_chosenOf 20 = .ok (.iaload, 1) := by decide +kernel
theorem dX12_chosenOf_21 : decode cX12_chosenOf 21 = .ok (.ireturn, 1) := by decide +kernel
theorem dX12_chosen_0 : decode cX12_chosen 0 = .ok (.aload_n 0, 1) := by decide +kernel
theorem dX12_chosen_1 : decode cX12_chosen 1 = .ok (.iload_n 1, 1) := by decide +kernel
theorem dX12_chosen_2 : decode cX12_chosen 2 = .ok (.invokestatic 93, 3) := by decide +kernel
theorem dX12_chosen_5 : decode cX12_chosen 5 = .ok (.ifCond .eq 7, 3) := by decide +kernel
theorem dX12_chosen_8 : decode cX12_chosen 8 = .ok (.iconst 0, 1) := by decide +kernel
theorem dX12_chosen_9 : decode cX12_chosen 9 = .ok (.goto 4, 3) := by decide +kernel
theorem dX12_chosen_12 : decode cX12_chosen 12 = .ok (.iconst 1, 1) := by decide +kernel
theorem dX12_chosen_13 : decode cX12_chosen 13 = .ok (.invokevirtual 101, 3) := by decide +kernel
theorem dX12_chosen_16 : decode cX12_chosen 16 = .ok (.ifCond .eq 11, 3) := by decide +kernel
theorem dX12_chosen_19 : decode cX12_chosen 19 = .ok (.aload_n 0, 1) := by decide +kernel
theorem dX12_chosen_20 : decode cX12_chosen 20 = .ok (.iload_n 1, 1) := by decide +kernel
theorem dX12_chosen_21 : decode cX12_chosen 21 = .ok (.invokevirtual 212, 3) := by decide +kernel
theorem dX12_chosen_24 : decode cX12_chosen 24 = .ok (.goto 4, 3) := by decide +kernel
theorem dX12_chosen_27 : decode cX12_chosen 27 = .ok (.iconst 0, 1) := by decide +kernel
theorem dX12_chosen_28 : decode cX12_chosen 28 = .ok (.ireturn, 1) := by decide +kernel
theorem dX12_chosenAnew_0 : decode cX12_chosenAnew 0 = .ok (.aload_n 0, 1) := by decide +kernel
theorem dX12_chosenAnew_1 : decode cX12_chosenAnew 1 = .ok (.iload_n 1, 1) := by decide +kernel
theorem dX12_chosenAnew_2 : decode cX12_chosenAnew 2 = .ok (.invokestatic 93, 3) := by decide +kernel
theorem dX12_chosenAnew_5 : decode cX12_chosenAnew 5 = .ok (.ifCond .eq 7, 3) := by decide +kernel
theorem dX12_chosenAnew_8 : decode cX12_chosenAnew 8 = .ok (.iconst 0, 1) := by decide +kernel
theorem dX12_chosenAnew_9 : decode cX12_chosenAnew 9 = .ok (.goto 4, 3) := by decide +kernel
theorem dX12_chosenAnew_12 : decode cX12_chosenAnew 12 = .ok (.iconst 1, 1) := by decide +kernel
theorem dX12_chosenAnew_13 : decode cX12_chosenAnew 13 = .ok (.invokevirtual 101, 3) := by decide +kernel
theorem dX12_chosenAnew_16 : decode cX12_chosenAnew 16 = .ok (.ifCond .ne 5, 3) := by decide +kernel
theorem dX12_chosenAnew_19 : decode cX12_chosenAnew 19 = .ok (.iconst 0, 1) := by decide +kernel
theorem dX12_chosenAnew_20 : decode cX12_chosenAnew 20 = .ok (.ireturn, 1) := by decide +kernel
theorem dX12_chosenAnew_21 : decode cX12_chosenAnew 21 = .ok (.aload_n 0, 1) := by decide +kernel
theorem dX12_chosenAnew_22 : decode cX12_chosenAnew 22 = .ok (.iconst 0, 1) := by decide +kernel
theorem dX12_chosenAnew_23 : decode cX12_chosenAnew 23 = .ok (.putfield 104, 3) := by decide +kernel
theorem dX12_chosenAnew_26 : decode cX12_chosenAnew 26 = .ok (.aload_n 0, 1) := by decide +kernel
theorem dX12_chosenAnew_27 : decode cX12_chosenAnew 27 = .ok (.iload_n 1, 1) := by decide +kernel
theorem dX12_chosenAnew_28 : decode cX12_chosenAnew 28 = .ok (.invokevirtual 212, 3) := by decide +kernel
theorem dX12_chosenAnew_31 : decode cX12_chosenAnew 31 = .ok (.ireturn, 1) := by decide +kernel
theorem dX12_features_0 : decode cX12_features 0 = .ok (.aload_n 0, 1) := by decide +kernel
theorem dX12_features_1 : decode cX12_features 1 = .ok (.iload_n 1, 1) := by decide +kernel
theorem dX12_features_2 : decode cX12_features 2 = .ok (.invokestatic 93, 3) := by decide +kernel
theorem dX12_features_5 : decode cX12_features 5 = .ok (.ifCond .eq 7, 3) := by decide +kernel
theorem dX12_features_8 : decode cX12_features 8 = .ok (.iconst 0, 1) := by decide +kernel
theorem dX12_features_9 : decode cX12_features 9 = .ok (.goto 4, 3) := by decide +kernel
theorem dX12_features_12 : decode cX12_features 12 = .ok (.iconst 1, 1) := by decide +kernel
theorem dX12_features_13 : decode cX12_features 13 = .ok (.invokevirtual 101, 3) := by decide +kernel
theorem dX12_features_16 : decode cX12_features 16 = .ok (.ifCond .eq 21, 3) := by decide +kernel
theorem dX12_features_19 : decode cX12_features 19 = .ok (.aload_n 0, 1) := by decide +kernel
theorem dX12_features_20 : decode cX12_features 20 = .ok (.iload_n 1, 1) := by decide +kernel
theorem dX12_features_21 : decode cX12_features 21 = .ok (.invokevirtual 212, 3) := by decide +kernel
theorem dX12_features_24 : decode cX12_features 24 = .ok (.iconst (-1), 1) := by decide +kernel
theorem dX12_features_25 : decode cX12_features 25 = .ok (.if_icmp .eq 12, 3) := by decide +kernel
theorem dX12_features_28 : decode cX12_features 28 = .ok (.aload_n 0, 1) := by decide +kernel
theorem dX12_features_29 : decode cX12_features 29 = .ok (.getfield 69, 3) := by decide +kernel
theorem dX12_features_32 : decode cX12_features 32 = .ok (.iload_n 1, 1) := by decide +kernel
theorem dX12_features_33 : decode cX12_features 33 = .ok (.iaload, 1) := by decide +kernel
theorem dX12_features_34 : decode cX12_features 34 = .ok (.goto 4, 3) := by decide +kernel
theorem dX12_features_37 : decode cX12_features 37 = .ok (.iconst 0, 1) := by decide +kernel
theorem dX12_features_38 : decode cX12_features 38 = .ok (.ireturn, 1) := by decide +kernel
theorem dX12_solutions_0 : decode cX12_solutions 0 = .ok (.aload_n 0, 1) := by decide +kernel
theorem dX12_solutions_1 : decode cX12_solutions 1 = .ok (.iconst 0, 1) := by decide +kernel
theorem dX12_solutions_2 : decode cX12_solutions 2 = .ok (.putfield 72, 3) := by decide +kernel
theorem dX12_solutions_5 : decode cX12_solutions 5 = .ok (.aload_n 0, 1) := by decide +kernel
theorem dX12_solutions_6 : decode cX12_solutions 6 = .ok (.invokevirtual 209, 3) := by decide +kernel
theorem dX12_solutions_9 : decode cX12_solutions 9 = .ok (.aload_n 0, 1) := by decide +kernel
theorem dX12_solutions_10 : decode cX12_solutions 10 = .ok (.getfield 181, 3) := by decide +kernel
theorem dX12_solutions_13 : decode cX12_solutions 13 = .ok (.sipush 1000, 3) := by decide +kernel
theorem dX12_solutions_16 : decode cX12_solutions 16 = .ok (.if_icmp .le 9, 3) := by decide +kernel
theorem dX12_solutions_19 : decode cX12_solutions 19 = .ok (.sipush 1000, 3) := by decide +kernel
theorem dX12_solutions_22 : decode cX12_solutions 22 = .ok (.goto 7, 3) := by decide +kernel
theorem dX12_solutions_25 : decode cX12_solutions 25 = .ok (.aload_n 0, 1) := by decide +kernel
theorem dX12_solutions_26 : decode cX12_solutions 26 = .ok (.getfield 181, 3) := by decide +kernel
theorem dX12_solutions_29 : decode cX12_solutions 29 = .ok (.ireturn, 1) := by decide +kernel
theorem dX12_bits_0 : decode cX12_bits 0 = .ok (.iconst 0, 1) := by decide +kernel
theorem dX12_bits_1 : decode cX12_bits 1 = .ok (.istore_n 1, 1) := by decide +kernel
theorem dX12_bits_2 : decode cX12_bits 2 = .ok (.iconst 0, 1) := by decide +kernel
theorem dX12_bits_3 : decode cX12_bits 3 = .ok (.istore_n 2, 1) := by decide +kernel
theorem dX12_bits_4 : decode cX12_bits 4 = .ok (.iload_n 2, 1) := by decide +kernel
theorem dX12_bits_5 : decode cX12_bits 5 = .ok (.bipush 6, 2) := by decide +kernel
theorem dX12_bits_7 : decode cX12_bits 7 = .ok (.if_icmp .ge 17, 3) := by decide +kernel
theorem dX12_bits_10 : decode cX12_bits 10 = .ok (.iload_n 1, 1) := by decide +kernel
theorem dX12_bits_11 : decode cX12_bits 11 = .ok (.iload_n 0, 1) := by decide +kernel
theorem dX12_bits_12 : decode cX12_bits 12 = .ok (.iload_n 2, 1) := by decide +kernel
theorem dX12_bits_13 : decode cX12_bits 13 = .ok (.ishr, 1) := by decide +kernel
theorem dX12_bits_14 : decode cX12_bits 14 = .ok (.iconst 1, 1) := by decide +kernel
theorem dX12_bits_15 : decode cX12_bits 15 = .ok (.iand, 1) := by decide +kernel
theorem dX12_bits_16 : decode cX12_bits 16 = .ok (.iadd, 1) := by decide +kernel
theorem dX12_bits_17 : decode cX12_bits 17 = .ok (.istore_n 1, 1) := by decide +kernel
theorem dX12_bits_18 : decode cX12_bits 18 = .ok (.iinc 2 1, 3) := by decide +kernel
theorem dX12_bits_21 : decode cX12_bits 21 = .ok (.goto (-17), 3) := by decide +kernel
theorem dX12_bits_24 : decode cX12_bits 24 = .ok (.iload_n 1, 1) := by decide +kernel
theorem dX12_bits_25 : decode cX12_bits 25 = .ok (.ireturn, 1) := by decide +kernel
theorem dX12_why_0 : decode cX12_why 0 = .ok (.aload_n 0, 1) := by decide +kernel
theorem dX12_why_1 : decode cX12_why 1 = .ok (.iconst 0, 1) := by decide +kernel
theorem dX12_why_2 : decode cX12_why 2 = .ok (.putfield 72, 3) := by decide +kernel
theorem dX12_why_5 : decode cX12_why 5 = .ok (.aload_n 0, 1) := by decide +kernel
theorem dX12_why_6 : decode cX12_why 6 = .ok (.invokevirtual 209, 3) := by decide +kernel
theorem dX12_why_9 : decode cX12_why 9 = .ok (.aload_n 0, 1) := by decide +kernel
theorem dX12_why_10 : decode cX12_why 10 = .ok (.aload_n 0, 1) := by decide +kernel
theorem dX12_why_11 : decode cX12_why 11 = .ok (.getfield 190, 3) := by decide +kernel
theorem dX12_why_14 : decode cX12_why 14 = .ok (.invokevirtual 193, 3) := by decide +kernel
theorem dX12_why_17 : decode cX12_why 17 = .ok (.istore_n 1, 1) := by decide +kernel
theorem dX12_why_18 : decode cX12_why 18 = .ok (.iconst 1, 1) := by decide +kernel
theorem dX12_why_19 : decode cX12_why 19 = .ok (.istore_n 2, 1) := by decide +kernel
theorem dX12_why_20 : decode cX12_why 20 = .ok (.iload_n 2, 1) := by decide +kernel
theorem dX12_why_21 : decode cX12_why 21 = .ok (.bipush 6, 2) := by decide +kernel
theorem dX12_why_23 : decode cX12_why 23 = .ok (.if_icmp .gt 56, 3) := by decide +kernel
theorem dX12_why_26 : decode cX12_why 26 = .ok (.aload_n 0, 1) := by decide +kernel
theorem dX12_why_27 : decode cX12_why 27 = .ok (.getfield 181, 3) := by decide +kernel
theorem dX12_why_30 : decode cX12_why 30 = .ok (.ifCond .ne 49, 3) := by decide +kernel
theorem dX12_why_33 : decode cX12_why 33 = .ok (.iconst 1, 1) := by decide +kernel
theorem dX12_why_34 : decode cX12_why 34 = .ok (.istore_n 3, 1) := by decide +kernel
theorem dX12_why_35 : decode cX12_why 35 = .ok (.iload_n 3, 1) := by decide +kernel
theorem dX12_why_36 : decode cX12_why 36 = .ok (.iload_n 1, 1) := by decide +kernel
theorem dX12_why_37 : decode cX12_why 37 = .ok (.if_icmp .gt 36, 3) := by decide +kernel
theorem dX12_why_40 : decode cX12_why 40 = .ok (.iload_n 3, 1) := by decide +kernel
theorem dX12_why_41 : decode cX12_why 41 = .ok (.iload_n 1, 1) := by decide +kernel
theorem dX12_why_42 : decode cX12_why 42 = .ok (.iconst (-1), 1) := by decide +kernel
theorem dX12_why_43 : decode cX12_why 43 = .ok (.ixor, 1) := by decide +kernel
theorem dX12_why_44 : decode cX12_why 44 = .ok (.iand, 1) := by decide +kernel
theorem dX12_why_45 : decode cX12_why 45 = .ok (.ifCond .ne 22, 3) := by decide +kernel
theorem dX12_why_48 : decode cX12_why 48 = .ok (.iload_n 3, 1) := by decide +kernel
theorem dX12_why_49 : decode cX12_why 49 = .ok (.invokestatic 215, 3) := by decide +kernel
theorem dX12_why_52 : decode cX12_why 52 = .ok (.iload_n 2, 1) := by decide +kernel
theorem dX12_why_53 : decode cX12_why 53 = .ok (.if_icmp .ne 14, 3) := by decide +kernel
theorem dX12_why_56 : decode cX12_why 56 = .ok (.aload_n 0, 1) := by decide +kernel
theorem dX12_why_57 : decode cX12_why 57 = .ok (.iload_n 3, 1) := by decide +kernel
theorem dX12_why_58 : decode cX12_why 58 = .ok (.iconst (-1), 1) := by decide +kernel
theorem dX12_why_59 : decode cX12_why 59 = .ok (.invokevirtual 218, 3) := by decide +kernel
theorem dX12_why_62 : decode cX12_why 62 = .ok (.ifCond .ne 5, 3) := by decide +kernel
theorem dX12_why_65 : decode cX12_why 65 = .ok (.iload_n 3, 1) := by decide +kernel
theorem dX12_why_66 : decode cX12_why 66 = .ok (.ireturn, 1) := by decide +kernel
theorem dX12_why_67 : decode cX12_why 67 = .ok (.iinc 3 1, 3) := by decide +kernel
theorem dX12_why_70 : decode cX12_why 70 = .ok (.goto (-35), 3) := by decide +kernel
theorem dX12_why_73 : decode cX12_why 73 = .ok (.iinc 2 1, 3) := by decide +kernel
theorem dX12_why_76 : decode cX12_why 76 = .ok (.goto (-56), 3) := by decide +kernel
theorem dX12_why_79 : decode cX12_why 79 = .ok (.iconst 0, 1) := by decide +kernel
theorem dX12_why_80 : decode cX12_why 80 = .ok (.ireturn, 1) := by decide +kernel
theorem dX12_against_0 : decode cX12_against 0 = .ok (.aload_n 0, 1) := by decide +kernel
theorem dX12_against_1 : decode cX12_against 1 = .ok (.aload_n 0, 1) := by decide +kernel
theorem dX12_against_2 : decode cX12_against 2 = .ok (.iload_n 1, 1) := by decide +kernel
theorem dX12_against_3 : decode cX12_against 3 = .ok (.invokevirtual 108, 3) := by decide +kernel
theorem dX12_against_6 : decode cX12_against 6 = .ok (.ifCond .eq 7, 3) := by decide +kernel
theorem dX12_against_9 : decode cX12_against 9 = .ok (.iconst 0, 1) := by decide +kernel
theorem dX12_against_10 : decode cX12_against 10 = .ok (.goto 4, 3) := by decide +kernel
theorem dX12_against_13 : decode cX12_against 13 = .ok (.iconst 1, 1) := by decide +kernel
theorem dX12_against_14 : decode cX12_against 14 = .ok (.invokevirtual 101, 3) := by decide +kernel
theorem dX12_against_17 : decode cX12_against 17 = .ok (.ifCond .ne 5, 3) := by decide +kernel
theorem dX12_against_20 : decode cX12_against 20 = .ok (.iconst 0, 1) := by decide +kernel
theorem dX12_against_21 : decode cX12_against 21 = .ok (.ireturn, 1) := by decide +kernel
theorem dX12_against_22 : decode cX12_against 22 = .ok (.aload_n 0, 1) := by decide +kernel
theorem dX12_against_23 : decode cX12_against 23 = .ok (.iload_n 1, 1) := by decide +kernel
theorem dX12_against_24 : decode cX12_against 24 = .ok (.invokevirtual 134, 3) := by decide +kernel
theorem dX12_against_27 : decode cX12_against 27 = .ok (.istore_n 2, 1) := by decide +kernel
theorem dX12_against_28 : decode cX12_against 28 = .ok (.iload_n 2, 1) := by decide +kernel
theorem dX12_against_29 : decode cX12_against 29 = .ok (.ifCond .eq 5, 3) := by decide +kernel
theorem dX12_against_32 : decode cX12_against 32 = .ok (.iload_n 2, 1) := by decide +kernel
theorem dX12_against_33 : decode cX12_against 33 = .ok (.ireturn, 1) := by decide +kernel
theorem dX12_against_34 : decode cX12_against 34 = .ok (.aload_n 0, 1) := by decide +kernel
theorem dX12_against_35 : decode cX12_against 35 = .ok (.aload_n 0, 1) := by decide +kernel
theorem dX12_against_36 : decode cX12_against 36 = .ok (.getfield 190, 3) := by decide +kernel
theorem dX12_against_39 : decode cX12_against 39 = .ok (.invokevirtual 193, 3) := by decide +kernel
theorem dX12_against_42 : decode cX12_against 42 = .ok (.istore_n 3, 1) := by decide +kernel
theorem dX12_against_43 : decode cX12_against 43 = .ok (.iconst 0, 1) := by decide +kernel
theorem dX12_against_44 : decode cX12_against 44 = .ok (.istore 4, 2) := by decide +kernel
theorem dX12_against_46 : decode cX12_against 46 = .ok (.iload 4, 2) := by decide +kernel
theorem dX12_against_48 : decode cX12_against 48 = .ok (.aload_n 0, 1) := by decide +kernel
theorem dX12_against_49 : decode cX12_against 49 = .ok (.getfield 125, 3) := by decide +kernel
theorem dX12_against_52 : decode cX12_against 52 = .ok (.if_icmp .ge 68, 3) := by decide +kernel
theorem dX12_against_55 : decode cX12_against 55 = .ok (.iload_n 3, 1) := by decide +kernel
theorem dX12_against_56 : decode cX12_against 56 = .ok (.iload 4, 2) := by decide +kernel
theorem dX12_against_58 : decode cX12_against 58 = .ok (.ishr, 1) := by decide +kernel
theorem dX12_against_59 : decode cX12_against 59 = .ok (.iconst 1, 1) := by decide +kernel
theorem dX12_against_60 : decode cX12_against 60 = .ok (.iand, 1) := by decide +kernel
theorem dX12_against_61 : decode cX12_against 61 = .ok (.iconst 1, 1) := by decide +kernel
theorem dX12_against_62 : decode cX12_against 62 = .ok (.if_icmp .ne 52, 3) := by decide +kernel
theorem dX12_against_65 : decode cX12_against 65 = .ok (.aload_n 0, 1) := by decide +kernel
theorem dX12_against_66 : decode cX12_against 66 = .ok (.aload_n 0, 1) := by decide +kernel
theorem dX12_against_67 : decode cX12_against 67 = .ok (.getfield 26, 3) := by decide +kernel
theorem dX12_against_70 : decode cX12_against 70 = .ok (.iconst 4, 1) := by decide +kernel
theorem dX12_against_71 : decode cX12_against 71 = .ok (.iload 4, 2) := by decide +kernel
theorem dX12_against_73 : decode cX12_against 73 = .ok (.imul, 1) := by decide +kernel
theorem dX12_against_74 : decode cX12_against 74 = .ok (.iconst 1, 1) := by decide +kernel
theorem dX12_against_75 : decode cX12_against 75 = .ok (.iadd, 1) := by decide +kernel
theorem dX12_against_76 : decode cX12_against 76 = .ok (.iaload, 1) := by decide +kernel
theorem dX12_against_77 : decode cX12_against 77 = .ok (.invokevirtual 140, 3) := by decide +kernel
theorem dX12_against_80 : decode cX12_against 80 = .ok (.aload_n 0, 1) := by decide +kernel
theorem dX12_against_81 : decode cX12_against 81 = .ok (.iload_n 1, 1) := by decide +kernel
theorem dX12_against_82 : decode cX12_against 82 = .ok (.invokevirtual 97, 3) := by decide +kernel
theorem dX12_against_85 : decode cX12_against 85 = .ok (.if_icmp .ne 29, 3) := by decide +kernel
theorem dX12_against_88 : decode cX12_against 88 = .ok (.aload_n 0, 1) := by decide +kernel
theorem dX12_against_89 : decode cX12_against 89 = .ok (.getfield 22, 3) := by decide +kernel
theorem dX12_against_92 : decode cX12_against 92 = .ok (.bipush 24, 2) := by decide +kernel
theorem dX12_against_94 : decode cX12_against 94 = .ok (.aload_n 0, 1) := by decide +kernel
theorem dX12_against_95 : decode cX12_against 95 = .ok (.getfield 26, 3) := by decide +kernel
theorem dX12_against_98 : decode cX12_against 98 = .ok (.iconst 4, 1) := by decide +kernel
theorem dX12_against_99 : decode cX12_against 99 = .ok (.iload 4, 2) := by decide +kernel
theorem dX12_against_101 : decode cX12_against 101 = .ok (.imul, 1) := by decide +kernel
theorem dX12_against_102 : decode cX12_against 102 = .ok (.iconst 2, 1) := by decide +kernel
theorem dX12_against_103 : decode cX12_against 103 = .ok (.iadd, 1) := by decide +kernel
theorem dX12_against_104 : decode cX12_against 104 = .ok (.iaload, 1) := by decide +kernel
theorem dX12_against_105 : decode cX12_against 105 = .ok (.imul, 1) := by decide +kernel
theorem dX12_against_106 : decode cX12_against 106 = .ok (.iload_n 1, 1) := by decide +kernel
theorem dX12_against_107 : decode cX12_against 107 = .ok (.iadd, 1) := by decide +kernel
theorem dX12_against_108 : decode cX12_against 108 = .ok (.baload, 1) := by decide +kernel
theorem dX12_against_109 : decode cX12_against 109 = .ok (.ifCond .ne 5, 3) := by decide +kernel
theorem dX12_against_112 : decode cX12_against 112 = .ok (.iconst 5, 1) := by decide +kernel
theorem dX12_against_113 : decode cX12_against 113 = .ok (.ireturn, 1) := by decide +kernel
theorem dX12_against_114 : decode cX12_against 114 = .ok (.iinc 4 1, 3) := by decide +kernel
theorem dX12_against_117 : decode cX12_against 117 = .ok (.goto (-71), 3) := by decide +kernel
theorem dX12_against_120 : decode cX12_against 120 = .ok (.aload_n 0, 1) := by decide +kernel
theorem dX12_against_121 : decode cX12_against 121 = .ok (.invokevirtual 209, 3) := by decide +kernel
theorem dX12_against_124 : decode cX12_against 124 = .ok (.aload_n 0, 1) := by decide +kernel
theorem dX12_against_125 : decode cX12_against 125 = .ok (.getfield 181, 3) := by decide +kernel
theorem dX12_against_128 : decode cX12_against 128 = .ok (.ifCond .le 19, 3) := by decide +kernel
theorem dX12_against_131 : decode cX12_against 131 = .ok (.aload_n 0, 1) := by decide +kernel
theorem dX12_against_132 : decode cX12_against 132 = .ok (.getfield 66, 3) := by decide +kernel
theorem dX12_against_135 : decode cX12_against 135 = .ok (.aload_n 0, 1) := by decide +kernel
theorem dX12_against_136 : decode cX12_against 136 = .ok (.iload_n 1, 1) := by decide +kernel
theorem dX12_against_137 : decode cX12_against 137 = .ok (.invokevirtual 97, 3) := by decide +kernel
theorem dX12_against_140 : decode cX12_against 140 = .ok (.iaload, 1) := by decide +kernel
theorem dX12_against_141 : decode cX12_against 141 = .ok (.iload_n 1, 1) := by decide +kernel
theorem dX12_against_142 : decode cX12_against 142 = .ok (.if_icmp .ne 5, 3) := by decide +kernel
theorem dX12_against_145 : decode cX12_against 145 = .ok (.iconst 0, 1) := by decide +kernel
theorem dX12_against_146 : decode cX12_against 146 = .ok (.ireturn, 1) := by decide +kernel
theorem dX12_against_147 : decode cX12_against 147 = .ok (.aload_n 0, 1) := by decide +kernel
theorem dX12_against_148 : decode cX12_against 148 = .ok (.iload_n 3, 1) := by decide +kernel
theorem dX12_against_149 : decode cX12_against 149 = .ok (.iload_n 1, 1) := by decide +kernel
theorem dX12_against_150 : decode cX12_against 150 = .ok (.invokevirtual 218, 3) := by decide +kernel
theorem dX12_against_153 : decode cX12_against 153 = .ok (.ifCond .eq 8, 3) := by decide +kernel
theorem dX12_against_156 : decode cX12_against 156 = .ok (.bipush 7, 2) := by decide +kernel
theorem dX12_against_158 : decode cX12_against 158 = .ok (.goto 5, 3) := by decide +kernel
theorem dX12_against_161 : decode cX12_against 161 = .ok (.bipush 6, 2) := by decide +kernel
theorem dX12_against_163 : decode cX12_against 163 = .ok (.ireturn, 1) := by decide +kernel
theorem dX12_lock_0 : decode cX12_lock 0 = .ok (.aload_n 0, 1) := by decide +kernel
theorem dX12_lock_1 : decode cX12_lock 1 = .ok (.invokevirtual 209, 3) := by decide +kernel
theorem dX12_lock_4 : decode cX12_lock 4 = .ok (.aload_n 0, 1) := by decide +kernel
theorem dX12_lock_5 : decode cX12_lock 5 = .ok (.aload_n 0, 1) := by decide +kernel
theorem dX12_lock_6 : decode cX12_lock 6 = .ok (.getfield 181, 3) := by decide +kernel
theorem dX12_lock_9 : decode cX12_lock 9 = .ok (.ifCond .ne 7, 3) := by decide +kernel
theorem dX12_lock_12 : decode cX12_lock 12 = .ok (.iconst 1, 1) := by decide +kernel
theorem dX12_lock_13 : decode cX12_lock 13 = .ok (.goto 4, 3) := by decide +kernel
theorem dX12_lock_16 : decode cX12_lock 16 = .ok (.iconst 0, 1) := by decide +kernel
theorem dX12_lock_17 : decode cX12_lock 17 = .ok (.invokevirtual 101, 3) := by decide +kernel
theorem dX12_lock_20 : decode cX12_lock 20 = .ok (.ifCond .ne 5, 3) := by decide +kernel
theorem dX12_lock_23 : decode cX12_lock 23 = .ok (.iconst 0, 1) := by decide +kernel
theorem dX12_lock_24 : decode cX12_lock 24 = .ok (.ireturn, 1) := by decide +kernel
theorem dX12_lock_25 : decode cX12_lock 25 = .ok (.iconst 0, 1) := by decide +kernel
theorem dX12_lock_26 : decode cX12_lock 26 = .ok (.istore_n 1, 1) := by decide +kernel
theorem dX12_lock_27 : decode cX12_lock 27 = .ok (.iconst 0, 1) := by decide +kernel
theorem dX12_lock_28 : decode cX12_lock 28 = .ok (.istore_n 2, 1) := by decide +kernel
theorem dX12_lock_29 : decode cX12_lock 29 = .ok (.iload_n 2, 1) := by decide +kernel
theorem dX12_lock_30 : decode cX12_lock 30 = .ok (.bipush 6, 2) := by decide +kernel
theorem dX12_lock_32 : decode cX12_lock 32 = .ok (.if_icmp .ge 44, 3) := by decide +kernel
theorem dX12_lock_35 : decode cX12_lock 35 = .ok (.iload_n 1, 1) := by decide +kernel
theorem dX12_lock_36 : decode cX12_lock 36 = .ok (.aload_n 0, 1) := by decide +kernel
theorem dX12_lock_37 : decode cX12_lock 37 = .ok (.getfield 35, 3) := by decide +kernel
theorem dX12_lock_40 : decode cX12_lock 40 = .ok (.iload_n 2, 1) := by decide +kernel
theorem dX12_lock_41 : decode cX12_lock 41 = .ok (.iaload, 1) := by decide +kernel
theorem dX12_lock_42 : decode cX12_lock 42 = .ok (.aload_n 0, 1) := by decide +kernel
theorem dX12_lock_43 : decode cX12_lock 43 = .ok (.getfield 66, 3) := by decide +kernel
theorem dX12_lock_46 : decode cX12_lock 46 = .ok (.iload_n 2, 1) := by decide +kernel
theorem dX12_lock_47 : decode cX12_lock 47 = .ok (.iaload, 1) := by decide +kernel
theorem dX12_lock_48 : decode cX12_lock 48 = .ok (.if_icmp .ne 7, 3) := by decide +kernel
theorem dX12_lock_51 : decode cX12_lock 51 = .ok (.iconst 0, 1) := by decide +kernel
theorem dX12_lock_52 : decode cX12_lock 52 = .ok (.goto 4, 3) := by decide +kernel
theorem dX12_lock_55 : decode cX12_lock 55 = .ok (.iconst 1, 1) := by decide +kernel
theorem dX12_lock_56 : decode cX12_lock 56 = .ok (.iadd, 1) := by decide +kernel
theorem dX12_lock_57 : decode cX12_lock 57 = .ok (.istore_n 1, 1) := by decide +kernel
theorem dX12_lock_58 : decode cX12_lock 58 = .ok (.aload_n 0, 1) := by decide +kernel
theorem dX12_lock_59 : decode cX12_lock 59 = .ok (.getfield 35, 3) := by decide +kernel
theorem dX12_lock_62 : decode cX12_lock 62 = .ok (.iload_n 2, 1) := by decide +kernel
theorem dX12_lock_63 : decode cX12_lock 63 = .ok (.aload_n 0, 1) := by decide +kernel
theorem dX12_lock_64 : decode cX12_lock 64 = .ok (.getfield 66, 3) := by decide +kernel
theorem dX12_lock_67 : decode cX12_lock 67 = .ok (.iload_n 2, 1) := by decide +kernel
theorem dX12_lock_68 : decode cX12_lock 68 = .ok (.iaload, 1) := by decide +kernel
theorem dX12_lock_69 : decode cX12_lock 69 = .ok (.iastore, 1) := by decide +kernel
theorem dX12_lock_70 : decode cX12_lock 70 = .ok (.iinc 2 1, 3) := by decide +kernel
theorem dX12_lock_73 : decode cX12_lock 73 = .ok (.goto (-44), 3) := by decide +kernel
theorem dX12_lock_76 : decode cX12_lock 76 = .ok (.aload_n 0, 1) := by decide +kernel
theorem dX12_lock_77 : decode cX12_lock 77 = .ok (.iconst 0, 1) := by decide +kernel
theorem dX12_lock_78 : decode cX12_lock 78 = .ok (.putfield 104, 3) := by decide +kernel
theorem dX12_lock_81 : decode cX12_lock 81 = .ok (.iload_n 1, 1) := by decide +kernel
theorem dX12_lock_82 : decode cX12_lock 82 = .ok (.ireturn, 1) := by decide +kernel
theorem dX12_unlock_0 : decode cX12_unlock 0 = .ok (.aload_n 0, 1) := by decide +kernel
theorem dX12_unlock_1 : decode cX12_unlock 1 = .ok (.iload_n 1, 1) := by decide +kernel
theorem dX12_unlock_2 : decode cX12_unlock 2 = .ok (.invokestatic 93, 3) := by decide +kernel
theorem dX12_unlock_5 : decode cX12_unlock 5 = .ok (.ifCond .eq 7, 3) := by decide +kernel
theorem dX12_unlock_8 : decode cX12_unlock 8 = .ok (.iconst 0, 1) := by decide +kernel
theorem dX12_unlock_9 : decode cX12_unlock 9 = .ok (.goto 4, 3) := by decide +kernel
theorem dX12_unlock_12 : decode cX12_unlock 12 = .ok (.iconst 1, 1) := by decide +kernel
theorem dX12_unlock_13 : decode cX12_unlock 13 = .ok (.invokevirtual 101, 3) := by decide +kernel
theorem dX12_unlock_16 : decode cX12_unlock 16 = .ok (.ifCond .ne 5, 3) := by decide +kernel
theorem dX12_unlock_19 : decode cX12_unlock 19 = .ok (.iconst 0, 1) := by decide +kernel
theorem dX12_unlock_20 : decode cX12_unlock 20 = .ok (.ireturn, 1) := by decide +kernel
theorem dX12_unlock_21 : decode cX12_unlock 21 = .ok (.aload_n 0, 1) := by decide +kernel
theorem dX12_unlock_22 : decode cX12_unlock 22 = .ok (.getfield 35, 3) := by decide +kernel
theorem dX12_unlock_25 : decode cX12_unlock 25 = .ok (.iload_n 1, 1) := by decide +kernel
theorem dX12_unlock_26 : decode cX12_unlock 26 = .ok (.iaload, 1) := by decide +kernel
theorem dX12_unlock_27 : decode cX12_unlock 27 = .ok (.istore_n 2, 1) := by decide +kernel
theorem dX12_unlock_28 : decode cX12_unlock 28 = .ok (.aload_n 0, 1) := by decide +kernel
theorem dX12_unlock_29 : decode cX12_unlock 29 = .ok (.getfield 35, 3) := by decide +kernel
theorem dX12_unlock_32 : decode cX12_unlock 32 = .ok (.iload_n 1, 1) := by decide +kernel
theorem dX12_unlock_33 : decode cX12_unlock 33 = .ok (.iconst (-1), 1) := by decide +kernel
theorem dX12_unlock_34 : decode cX12_unlock 34 = .ok (.iastore, 1) := by decide +kernel
theorem dX12_unlock_35 : decode cX12_unlock 35 = .ok (.aload_n 0, 1) := by decide +kernel
theorem dX12_unlock_36 : decode cX12_unlock 36 = .ok (.iconst 0, 1) := by decide +kernel
theorem dX12_unlock_37 : decode cX12_unlock 37 = .ok (.putfield 104, 3) := by decide +kernel
theorem dX12_unlock_40 : decode cX12_unlock 40 = .ok (.iload_n 2, 1) := by decide +kernel
theorem dX12_unlock_41 : decode cX12_unlock 41 = .ok (.ireturn, 1) := by decide +kernel
theorem dX12_sumOf_0 : decode cX12_sumOf 0 = .ok (.bipush 9, 2) := by decide +kernel
theorem dX12_sumOf_2 : decode cX12_sumOf 2 = .ok (.iload_n 1, 1) := by decide +kernel
theorem dX12_sumOf_3 : decode cX12_sumOf 3 = .ok (.imul, 1) := by decide +kernel
theorem dX12_sumOf_4 : decode cX12_sumOf 4 = .ok (.istore_n 2, 1) := by decide +kernel
theorem dX12_sumOf_5 : decode cX12_sumOf 5 = .ok (.bipush 31, 2) := by decide +kernel
theorem dX12_sumOf_7 : decode cX12_sumOf 7 = .ok (.iload_n 1, 1) := by decide +kernel
theorem dX12_sumOf_8 : decode cX12_sumOf 8 = .ok (.imul, 1) := by decide +kernel
theorem dX12_sumOf_9 : decode cX12_sumOf 9 = .ok (.bipush 7, 2) := by decide +kernel
theorem dX12_sumOf_11 : decode cX12_sumOf 11 = .ok (.aload_n 0, 1) := by decide +kernel
theorem dX12_sumOf_12 : decode cX12_sumOf 12 = .ok (.getfield 7, 3) := by decide +kernel
theorem dX12_sumOf_15 : decode cX12_sumOf 15 = .ok (.iload_n 2, 1) := by decide +kernel
theorem dX12_sumOf_16 : decode cX12_sumOf 16 = .ok (.iconst 1, 1) := by decide +kernel
theorem dX12_sumOf_17 : decode cX12_sumOf 17 = .ok (.iadd, 1) := by decide +kernel
theorem dX12_sumOf_18 : decode cX12_sumOf 18 = .ok (.iaload, 1) := by decide +kernel
theorem dX12_sumOf_19 : decode cX12_sumOf 19 = .ok (.imul, 1) := by decide +kernel
theorem dX12_sumOf_20 : decode cX12_sumOf 20 = .ok (.iadd, 1) := by decide +kernel
theorem dX12_sumOf_21 : decode cX12_sumOf 21 = .ok (.iconst 5, 1) := by decide +kernel
theorem dX12_sumOf_22 : decode cX12_sumOf 22 = .ok (.aload_n 0, 1) := by decide +kernel
theorem dX12_sumOf_23 : decode cX12_sumOf 23 = .ok (.getfield 7, 3) := by decide +kernel
theorem dX12_sumOf_26 : decode cX12_sumOf 26 = .ok (.iload_n 2, 1) := by decide +kernel
theorem dX12_sumOf_27 : decode cX12_sumOf 27 = .ok (.iconst 2, 1) := by decide +kernel
theorem dX12_sumOf_28 : decode cX12_sumOf 28 = .ok (.iadd, 1) := by decide +kernel
theorem dX12_sumOf_29 : decode cX12_sumOf 29 = .ok (.iaload, 1) := by decide +kernel
theorem dX12_sumOf_30 : decode cX12_sumOf 30 = .ok (.imul, 1) := by decide +kernel
theorem dX12_sumOf_31 : decode cX12_sumOf 31 = .ok (.iadd, 1) := by decide +kernel
theorem dX12_sumOf_32 : decode cX12_sumOf 32 = .ok (.iconst 3, 1) := by decide +kernel
theorem dX12_sumOf_33 : decode cX12_sumOf 33 = .ok (.aload_n 0, 1) := by decide +kernel
theorem dX12_sumOf_34 : decode cX12_sumOf 34 = .ok (.getfield 7, 3) := by decide +kernel
theorem dX12_sumOf_37 : decode cX12_sumOf 37 = .ok (.iload_n 2, 1) := by decide +kernel
theorem dX12_sumOf_38 : decode cX12_sumOf 38 = .ok (.iconst 3, 1) := by decide +kernel
theorem dX12_sumOf_39 : decode cX12_sumOf 39 = .ok (.iadd, 1) := by decide +kernel
theorem dX12_sumOf_40 : decode cX12_sumOf 40 = .ok (.iaload, 1) := by decide +kernel
theorem dX12_sumOf_41 : decode cX12_sumOf 41 = .ok (.imul, 1) := by decide +kernel
theorem dX12_sumOf_42 : decode cX12_sumOf 42 = .ok (.iadd, 1) := by decide +kernel
theorem dX12_sumOf_43 : decode cX12_sumOf 43 = .ok (.aload_n 0, 1) := by decide +kernel
theorem dX12_sumOf_44 : decode cX12_sumOf 44 = .ok (.getfield 7, 3) := by decide +kernel
theorem dX12_sumOf_47 : decode cX12_sumOf 47 = .ok (.iload_n 2, 1) := by decide +kernel
theorem dX12_sumOf_48 : decode cX12_sumOf 48 = .ok (.iconst 4, 1) := by decide +kernel
theorem dX12_sumOf_49 : decode cX12_sumOf 49 = .ok (.iadd, 1) := by decide +kernel
theorem dX12_sumOf_50 : decode cX12_sumOf 50 = .ok (.iaload, 1) := by decide +kernel
theorem dX12_sumOf_51 : decode cX12_sumOf 51 = .ok (.iadd, 1) := by decide +kernel
theorem dX12_sumOf_52 : decode cX12_sumOf 52 = .ok (.iconst 1, 1) := by decide +kernel
theorem dX12_sumOf_53 : decode cX12_sumOf 53 = .ok (.iadd, 1) := by decide +kernel
theorem dX12_sumOf_54 : decode cX12_sumOf 54 = .ok (.sipush 9973, 3) := by decide +kernel
theorem dX12_sumOf_57 : decode cX12_sumOf 57 = .ok (.irem, 1) := by decide +kernel
theorem dX12_sumOf_58 : decode cX12_sumOf 58 = .ok (.ireturn, 1) := by decide +kernel
theorem dX12_isRightOnDisk_0 : decode cX12_isRightOnDisk 0 = .ok (.aload_n 0, 1) := by decide +kernel
theorem dX12_isRightOnDisk_1 : decode cX12_isRightOnDisk 1 = .ok (.getfield 38, 3) := by decide +kernel
theorem dX12_isRightOnDisk_4 : decode cX12_isRightOnDisk 4 = .ok (.iload_n 1, 1) := by decide +kernel
theorem dX12_isRightOnDisk_5 : decode cX12_isRightOnDisk 5 = .ok (.iaload, 1) := by decide +kernel
theorem dX12_isRightOnDisk_6 : decode cX12_isRightOnDisk 6 = .ok (.aload_n 0, 1) := by decide +kernel
theorem dX12_isRightOnDisk_7 : decode cX12_isRightOnDisk 7 = .ok (.getfield 66, 3) := by decide +kernel
theorem dX12_isRightOnDisk_10 : decode cX12_isRightOnDisk 10 = .ok (.iload_n 1, 1) := by decide +kernel
theorem dX12_isRightOnDisk_11 : decode cX12_isRightOnDisk 11 = .ok (.iaload, 1) := by decide +kernel
theorem dX12_isRightOnDisk_12 : decode cX12_isRightOnDisk 12 = .ok (.if_icmp .ne 36, 3) := by decide +kernel
theorem dX12_isRightOnDisk_15 : decode cX12_isRightOnDisk 15 = .ok (.aload_n 0, 1) := by decide +kernel
theorem dX12_isRightOnDisk_16 : decode cX12_isRightOnDisk 16 = .ok (.getfield 66, 3) := by decide +kernel
theorem dX12_isRightOnDisk_19 : decode cX12_isRightOnDisk 19 = .ok (.iload_n 1, 1) := by decide +kernel
theorem dX12_isRightOnDisk_20 : decode cX12_isRightOnDisk 20 = .ok (.iaload, 1) := by decide +kernel
theorem dX12_isRightOnDisk_21 : decode cX12_isRightOnDisk 21 = .ok (.iconst (-1), 1) := by decide +kernel
theorem dX12_isRightOnDisk_22 : decode cX12_isRightOnDisk 22 = .ok (.if_icmp .eq 22, 3) := by decide +kernel
theorem dX12_isRightOnDisk_25 : decode cX12_isRightOnDisk 25 = .ok (.aload_n 0, 1) := by decide +kernel
theorem dX12_isRightOnDisk_26 : decode cX12_isRightOnDisk 26 = .ok (.getfield 41, 3) := by decide +kernel
theorem dX12_isRightOnDisk_29 : decode cX12_isRightOnDisk 29 = .ok (.iload_n 1, 1) := by decide +kernel
theorem dX12_isRightOnDisk_30 : decode cX12_isRightOnDisk 30 = .ok (.iaload, 1) := by decide +kernel
theorem dX12_isRightOnDisk_31 : decode cX12_isRightOnDisk 31 = .ok (.aload_n 0, 1) := by decide +kernel
theorem dX12_isRightOnDisk_32 : decode cX12_isRightOnDisk 32 = .ok (.aload_n 0, 1) := by decide +kernel
theorem dX12_isRightOnDisk_33 : decode cX12_isRightOnDisk 33 = .ok (.getfield 66, 3) := by decide +kernel
theorem dX12_isRightOnDisk_36 : decode cX12_isRightOnDisk 36 = .ok (.iload_n 1, 1) := by decide +kernel
theorem dX12_isRightOnDisk_37 : decode cX12_isRightOnDisk 37 = .ok (.iaload, 1) := by decide +kernel
theorem dX12_isRightOnDisk_38 : decode cX12_isRightOnDisk 38 = .ok (.invokevirtual 221, 3) := by decide +kernel
theorem dX12_isRightOnDisk_41 : decode cX12_isRightOnDisk 41 = .ok (.if_icmp .ne 7, 3) := by decide +kernel
theorem dX12_isRightOnDisk_44 : decode cX12_isRightOnDisk 44 = .ok (.iconst 1, 1) := by decide +kernel
theorem dX12_isRightOnDisk_45 : decode cX12_isRightOnDisk 45 = .ok (.goto 4, 3) := by decide +kernel
theorem dX12_isRightOnDisk_48 : decode cX12_isRightOnDisk 48 = .ok (.iconst 0, 1) := by decide +kernel
theorem dX12_isRightOnDisk_49 : decode cX12_isRightOnDisk 49 = .ok (.ireturn, 1) := by decide +kernel
theorem dX12_install_0 : decode cX12_install 0 = .ok (.aload_n 0, 1) := by decide +kernel
theorem dX12_install_1 : decode cX12_install 1 = .ok (.invokevirtual 209, 3) := by decide +kernel
theorem dX12_install_4 : decode cX12_install 4 = .ok (.aload_n 0, 1) := by decide +kernel
theorem dX12_install_5 : decode cX12_install 5 = .ok (.iload_n 1, 1) := by decide +kernel
theorem dX12_install_6 : decode cX12_install 6 = .ok (.iconst 1, 1) := by decide +kernel
theorem dX12_install_7 : decode cX12_install 7 = .ok (.bipush 10, 2) := by decide +kernel
theorem dX12_install_9 : decode cX12_install 9 = .ok (.invokestatic 75, 3) := by decide +kernel
theorem dX12_install_12 : decode cX12_install 12 = .ok (.ifCond .ne 7, 3) := by decide +kernel
theorem dX12_install_15 : decode cX12_install 15 = .ok (.iconst 1, 1) := by decide +kernel
theorem dX12_install_16 : decode cX12_install 16 = .ok (.goto 15, 3) := by decide +kernel
theorem dX12_install_19 : decode cX12_install 19 = .ok (.aload_n 0, 1) := by decide +kernel
theorem dX12_install_20 : decode cX12_install 20 = .ok (.getfield 181, 3) := by decide +kernel
theorem dX12_install_23 : decode cX12_install 23 = .ok (.ifCond .ne 7, 3) := by decide +kernel
theorem dX12_install_26 : decode cX12_install 26 = .ok (.iconst 2, 1) := by decide +kernel
theorem dX12_install_27 : decode cX12_install 27 = .ok (.goto 4, 3) := by decide +kernel
theorem dX12_install_30 : decode cX12_install 30 = .ok (.iconst 0, 1) := by decide +kernel
theorem dX12_install_31 : decode cX12_install 31 = .ok (.invokevirtual 101, 3) := by decide +kernel
theorem dX12_install_34 : decode cX12_install 34 = .ok (.ifCond .ne 5, 3) := by decide +kernel
theorem dX12_install_37 : decode cX12_install 37 = .ok (.iconst 0, 1) := by decide +kernel
theorem dX12_install_38 : decode cX12_install 38 = .ok (.ireturn, 1) := by decide +kernel
theorem dX12_install_39 : decode cX12_install 39 = .ok (.iconst 0, 1) := by decide +kernel
theorem dX12_install_40 : decode cX12_install 40 = .ok (.istore_n 2, 1) := by decide +kernel
theorem dX12_install_41 : decode cX12_install 41 = .ok (.iconst 0, 1) := by decide +kernel
theorem dX12_install_42 : decode cX12_install 42 = .ok (.istore_n 3, 1) := by decide +kernel
theorem dX12_install_43 : decode cX12_install 43 = .ok (.iload_n 3, 1) := by decide +kernel
theorem dX12_install_44 : decode cX12_install 44 = .ok (.bipush 6, 2) := by decide +kernel
theorem dX12_install_46 : decode cX12_install 46 = .ok (.if_icmp .ge 67, 3) := by decide +kernel
theorem dX12_install_49 : decode cX12_install 49 = .ok (.iload_n 2, 1) := by decide +kernel
theorem dX12_install_50 : decode cX12_install 50 = .ok (.iload_n 1, 1) := by decide +kernel
theorem dX12_install_51 : decode cX12_install 51 = .ok (.if_icmp .ge 62, 3) := by decide +kernel
theorem dX12_install_54 : decode cX12_install 54 = .ok (.aload_n 0, 1) := by decide +kernel
theorem dX12_install_55 : decode cX12_install 55 = .ok (.iload_n 3, 1) := by decide +kernel
theorem dX12_install_56 : decode cX12_install 56 = .ok (.invokevirtual 224, 3) := by decide +kernel
theorem dX12_install_59 : decode cX12_install 59 = .ok (.ifCond .ne 48, 3) := by decide +kernel
theorem dX12_install_62 : decode cX12_install 62 = .ok (.aload_n 0, 1) := by decide +kernel
theorem dX12_install_63 : decode cX12_install 63 = .ok (.getfield 38, 3) := by decide +kernel
theorem dX12_install_66 : decode cX12_install 66 = .ok (.iload_n 3, 1) := by decide +kernel
theorem dX12_install_67 : decode cX12_install 67 = .ok (.aload_n 0, 1) := by decide +kernel
theorem dX12_install_68 : decode cX12_install 68 = .ok (.getfield 66, 3) := by decide +kernel
theorem dX12_install_71 : decode cX12_install 71 = .ok (.iload_n 3, 1) := by decide +kernel
theorem dX12_install_72 : decode cX12_install 72 = .ok (.iaload, 1) := by decide +kernel
theorem dX12_install_73 : decode cX12_install 73 = .ok (.iastore, 1) := by decide +kernel
theorem dX12_install_74 : decode cX12_install 74 = .ok (.aload_n 0, 1) := by decide +kernel
theorem dX12_install_75 : decode cX12_install 75 = .ok (.getfield 41, 3) := by decide +kernel
theorem dX12_install_78 : decode cX12_install 78 = .ok (.iload_n 3, 1) := by decide +kernel
theorem dX12_install_79 : decode cX12_install 79 = .ok (.aload_n 0, 1) := by decide +kernel
theorem dX12_install_80 : decode cX12_install 80 = .ok (.getfield 66, 3) := by decide +kernel
theorem dX12_install_83 : decode cX12_install 83 = .ok (.iload_n 3, 1) := by decide +kernel
theorem dX12_install_84 : decode cX12_install 84 = .ok (.iaload, 1) := by decide +kernel
theorem dX12_install_85 : decode cX12_install 85 = .ok (.iconst (-1), 1) := by decide +kernel
theorem dX12_install_86 : decode cX12_install 86 = .ok (.if_icmp .ne 7, 3) := by decide +kernel
theorem dX12_install_89 : decode cX12_install 89 = .ok (.iconst 0, 1) := by decide +kernel
theorem dX12_install_90 : decode cX12_install 90 = .ok (.goto 13, 3) := by decide +kernel
theorem dX12_install_93 : decode cX12_install 93 = .ok (.aload_n 0, 1) := by decide +kernel
theorem dX12_install_94 : decode cX12_install 94 = .ok (.aload_n 0, 1) := by decide +kernel
theorem dX12_install_95 : decode cX12_install 95 = .ok (.getfield 66, 3) := by decide +kernel
theorem dX12_install_98 : decode cX12_install 98 = .ok (.iload_n 3, 1) := by decide +kernel
theorem dX12_install_99 : decode cX12_install 99 = .ok (.iaload, 1) := by decide +kernel
theorem dX12_install_100 : decode cX12_install 100 = .ok (.invokevirtual 221, 3) := by decide +kernel
theorem dX12_install_103 : decode cX12_install 103 = .ok (.iastore, 1) := by decide +kernel
theorem dX12_install_104 : decode cX12_install 104 = .ok (.iinc 2 1, 3) := by decide +kernel
theorem dX12_install_107 : decode cX12_install 107 = .ok (.iinc 3 1, 3) := by decide +kernel
theorem dX12_install_110 : decode cX12_install 110 = .ok (.goto (-67), 3) := by decide +kernel
theorem dX12_install_113 : decode cX12_install 113 = .ok (.iload_n 2, 1) := by decide +kernel
theorem dX12_install_114 : decode cX12_install 114 = .ok (.ireturn, 1) := by decide +kernel
theorem dX12_spoil_0 : decode cX12_spoil 0 = .ok (.aload_n 0, 1) := by decide +kernel
theorem dX12_spoil_1 : decode cX12_spoil 1 = .ok (.iload_n 1, 1) := by decide +kernel
theorem dX12_spoil_2 : decode cX12_spoil 2 = .ok (.invokestatic 93, 3) := by decide +kernel
theorem dX12_spoil_5 : decode cX12_spoil 5 = .ok (.ifCond .ne 7, 3) := by decide +kernel
theorem dX12_spoil_8 : decode cX12_spoil 8 = .ok (.iconst 1, 1) := by decide +kernel
theorem dX12_spoil_9 : decode cX12_spoil 9 = .ok (.goto 18, 3) := by decide +kernel
theorem dX12_spoil_12 : decode cX12_spoil 12 = .ok (.aload_n 0, 1) := by decide +kernel
theorem dX12_spoil_13 : decode cX12_spoil 13 = .ok (.getfield 38, 3) := by decide +kernel
theorem dX12_spoil_16 : decode cX12_spoil 16 = .ok (.iload_n 1, 1) := by decide +kernel
theorem dX12_spoil_17 : decode cX12_spoil 17 = .ok (.iaload, 1) := by decide +kernel
theorem dX12_spoil_18 : decode cX12_spoil 18 = .ok (.iconst (-1), 1) := by decide +kernel
theorem dX12_spoil_19 : decode cX12_spoil 19 = .ok (.if_icmp .ne 7, 3) := by decide +kernel
theorem dX12_spoil_22 : decode cX12_spoil 22 = .ok (.iconst 2, 1) := by decide +kernel
theorem dX12_spoil_23 : decode cX12_spoil 23 = .ok (.goto 4, 3) := by decide +kernel
theorem dX12_spoil_26 : decode cX12_spoil 26 = .ok (.iconst 0, 1) := by decide +kernel
theorem dX12_spoil_27 : decode cX12_spoil 27 = .ok (.invokevirtual 101, 3) := by decide +kernel
theorem dX12_spoil_30 : decode cX12_spoil 30 = .ok (.ifCond .ne 5, 3) := by decide +kernel
theorem dX12_spoil_33 : decode cX12_spoil 33 = .ok (.iconst 0, 1) := by decide +kernel
theorem dX12_spoil_34 : decode cX12_spoil 34 = .ok (.ireturn, 1) := by decide +kernel
theorem dX12_spoil_35 : decode cX12_spoil 35 = .ok (.aload_n 0, 1) := by decide +kernel
theorem dX12_spoil_36 : decode cX12_spoil 36 = .ok (.getfield 41, 3) := by decide +kernel
theorem dX12_spoil_39 : decode cX12_spoil 39 = .ok (.iload_n 1, 1) := by decide +kernel
theorem dX12_spoil_40 : decode cX12_spoil 40 = .ok (.dup2, 1) := by decide +kernel
theorem dX12_spoil_41 : decode cX12_spoil 41 = .ok (.iaload, 1) := by decide +kernel
theorem dX12_spoil_42 : decode cX12_spoil 42 = .ok (.iconst 1, 1) := by decide +kernel
theorem dX12_spoil_43 : decode cX12_spoil 43 = .ok (.iadd, 1) := by decide +kernel
theorem dX12_spoil_44 : decode cX12_spoil 44 = .ok (.iastore, 1) := by decide +kernel
theorem dX12_spoil_45 : decode cX12_spoil 45 = .ok (.aload_n 0, 1) := by decide +kernel
theorem dX12_spoil_46 : decode cX12_spoil 46 = .ok (.getfield 41, 3) := by decide +kernel
theorem dX12_spoil_49 : decode cX12_spoil 49 = .ok (.iload_n 1, 1) := by decide +kernel
theorem dX12_spoil_50 : decode cX12_spoil 50 = .ok (.iaload, 1) := by decide +kernel
theorem dX12_spoil_51 : decode cX12_spoil 51 = .ok (.ireturn, 1) := by decide +kernel
theorem dX12_onDisk_0 : decode cX12_onDisk 0 = .ok (.aload_n 0, 1) := by decide +kernel
theorem dX12_onDisk_1 : decode cX12_onDisk 1 = .ok (.iload_n 1, 1) := by decide +kernel
theorem dX12_onDisk_2 : decode cX12_onDisk 2 = .ok (.invokestatic 93, 3) := by decide +kernel
theorem dX12_onDisk_5 : decode cX12_onDisk 5 = .ok (.ifCond .eq 7, 3) := by decide +kernel
theorem dX12_onDisk_8 : decode cX12_onDisk 8 = .ok (.iconst 0, 1) := by decide +kernel
theorem dX12_onDisk_9 : decode cX12_onDisk 9 = .ok (.goto 4, 3) := by decide +kernel
theorem dX12_onDisk_12 : decode cX12_onDisk 12 = .ok (.iconst 1, 1) := by decide +kernel
theorem dX12_onDisk_13 : decode cX12_onDisk 13 = .ok (.invokevirtual 101, 3) := by decide +kernel
theorem dX12_onDisk_16 : decode cX12_onDisk 16 = .ok (.ifCond .eq 33, 3) := by decide +kernel
theorem dX12_onDisk_19 : decode cX12_onDisk 19 = .ok (.aload_n 0, 1) := by decide +kernel
theorem dX12_onDisk_20 : decode cX12_onDisk 20 = .ok (.getfield 38, 3) := by decide +kernel
theorem dX12_onDisk_23 : decode cX12_onDisk 23 = .ok (.iload_n 1, 1) := by decide +kernel
theorem dX12_onDisk_24 : decode cX12_onDisk 24 = .ok (.iaload, 1) := by decide +kernel
theorem dX12_onDisk_25 : decode cX12_onDisk 25 = .ok (.iconst (-1), 1) := by decide +kernel
theorem dX12_onDisk_26 : decode cX12_onDisk 26 = .ok (.if_icmp .eq 23, 3) := by decide +kernel
theorem dX12_onDisk_29 : decode cX12_onDisk 29 = .ok (.sipush 10000, 3) := by decide +kernel
theorem dX12_onDisk_32 : decode cX12_onDisk 32 = .ok (.aload_n 0, 1) := by decide +kernel
theorem dX12_onDisk_33 : decode cX12_onDisk 33 = .ok (.getfield 38, 3) := by decide +kernel
theorem dX12_onDisk_36 : decode cX12_onDisk 36 = .ok (.iload_n 1, 1) := by decide +kernel
theorem dX12_onDisk_37 : decode cX12_onDisk 37 = .ok (.iaload, 1) := by decide +kernel
theorem dX12_onDisk_38 : decode cX12_onDisk 38 = .ok (.imul, 1) := by decide +kernel
theorem dX12_onDisk_39 : decode cX12_onDisk 39 = .ok (.aload_n 0, 1) := by decide +kernel
theorem dX12_onDisk_40 : decode cX12_onDisk 40 = .ok (.getfield 41, 3) := by decide +kernel
theorem dX12_onDisk_43 : decode cX12_onDisk 43 = .ok (.iload_n 1, 1) := by decide +kernel
theorem dX12_onDisk_44 : decode cX12_onDisk 44 = .ok (.iaload, 1) := by decide +kernel
theorem dX12_onDisk_45 : decode cX12_onDisk 45 = .ok (.iadd, 1) := by decide +kernel
theorem dX12_onDisk_46 : decode cX12_onDisk 46 = .ok (.goto 15, 3) := by decide +kernel
theorem dX12_onDisk_49 : decode cX12_onDisk 49 = .ok (.aload_n 0, 1) := by decide +kernel
theorem dX12_onDisk_50 : decode cX12_onDisk 50 = .ok (.getfield 72, 3) := by decide +kernel
theorem dX12_onDisk_53 : decode cX12_onDisk 53 = .ok (.ifCond .ne 7, 3) := by decide +kernel
theorem dX12_onDisk_56 : decode cX12_onDisk 56 = .ok (.iconst (-1), 1) := by decide +kernel
theorem dX12_onDisk_57 : decode cX12_onDisk 57 = .ok (.goto 4, 3) := by decide +kernel
theorem dX12_onDisk_60 : decode cX12_onDisk 60 = .ok (.iconst 0, 1) := by decide +kernel
theorem dX12_onDisk_61 : decode cX12_onDisk 61 = .ok (.ireturn, 1) := by decide +kernel
theorem dX12_pending_0 : decode cX12_pending 0 = .ok (.aload_n 0, 1) := by decide +kernel
theorem dX12_pending_1 : decode cX12_pending 1 = .ok (.iconst 0, 1) := by decide +kernel
theorem dX12_pending_2 : decode cX12_pending 2 = .ok (.putfield 72, 3) := by decide +kernel
theorem dX12_pending_5 : decode cX12_pending 5 = .ok (.aload_n 0, 1) := by decide +kernel
theorem dX12_pending_6 : decode cX12_pending 6 = .ok (.invokevirtual 209, 3) := by decide +kernel
theorem dX12_pending_9 : decode cX12_pending 9 = .ok (.iconst 0, 1) := by decide +kernel
theorem dX12_pending_10 : decode cX12_pending 10 = .ok (.istore_n 1, 1) := by decide +kernel
theorem dX12_pending_11 : decode cX12_pending 11 = .ok (.iconst 0, 1) := by decide +kernel
theorem dX12_pending_12 : decode cX12_pending 12 = .ok (.istore_n 2, 1) := by decide +kernel
theorem dX12_pending_13 : decode cX12_pending 13 = .ok (.iload_n 2, 1) := by decide +kernel
theorem dX12_pending_14 : decode cX12_pending 14 = .ok (.bipush 6, 2) := by decide +kernel
theorem dX12_pending_16 : decode cX12_pending 16 = .ok (.if_icmp .ge 25, 3) := by decide +kernel
theorem dX12_pending_19 : decode cX12_pending 19 = .ok (.iload_n 1, 1) := by decide +kernel
theorem dX12_pending_20 : decode cX12_pending 20 = .ok (.aload_n 0, 1) := by decide +kernel
theorem dX12_pending_21 : decode cX12_pending 21 = .ok (.iload_n 2, 1) := by decide +kernel
theorem dX12_pending_22 : decode cX12_pending 22 = .ok (.invokevirtual 224, 3) := by decide +kernel
theorem dX12_pending_25 : decode cX12_pending 25 = .ok (.ifCond .eq 7, 3) := by decide +kernel
theorem dX12_pending_28 : decode cX12_pending 28 = .ok (.iconst 0, 1) := by decide +kernel
theorem dX12_pending_29 : decode cX12_pending 29 = .ok (.goto 4, 3) := by decide +kernel
theorem dX12_pending_32 : decode cX12_pending 32 = .ok (.iconst 1, 1) := by decide +kernel
theorem dX12_pending_33 : decode cX12_pending 33 = .ok (.iadd, 1) := by decide +kernel
theorem dX12_pending_34 : decode cX12_pending 34 = .ok (.istore_n 1, 1) := by decide +kernel
theorem dX12_pending_35 : decode cX12_pending 35 = .ok (.iinc 2 1, 3) := by decide +kernel
theorem dX12_pending_38 : decode cX12_pending 38 = .ok (.goto (-25), 3) := by decide +kernel
theorem dX12_pending_41 : decode cX12_pending 41 = .ok (.aload_n 0, 1) := by decide +kernel
theorem dX12_pending_42 : decode cX12_pending 42 = .ok (.getfield 181, 3) := by decide +kernel
theorem dX12_pending_45 : decode cX12_pending 45 = .ok (.ifCond .ne 7, 3) := by decide +kernel
theorem dX12_pending_48 : decode cX12_pending 48 = .ok (.iconst (-1), 1) := by decide +kernel
theorem dX12_pending_49 : decode cX12_pending 49 = .ok (.goto 4, 3) := by decide +kernel
theorem dX12_pending_52 : decode cX12_pending 52 = .ok (.iload_n 1, 1) := by decide +kernel
theorem dX12_pending_53 : decode cX12_pending 53 = .ok (.ireturn, 1) := by decide +kernel

theorem dX8_read_173 : decode cX8_read 173 = .ok (.iconst 2, 1) := by decide +kernel
theorem dX8_read_174 : decode cX8_read 174 = .ok (.putfield 136, 3) := by decide +kernel
theorem dX8_read_177 : decode cX8_read 177 = .ok (.goto 29, 3) := by decide +kernel
theorem dX8_read_180 : decode cX8_read 180 = .ok (.aload_n 0, 1) := by decide +kernel
theorem dX8_read_181 : decode cX8_read 181 = .ok (.dup, 1) := by decide +kernel
theorem dX8_read_182 : decode cX8_read 182 = .ok (.getfield 126, 3) := by decide +kernel
theorem dX8_read_185 : decode cX8_read 185 = .ok (.iconst 1, 1) := by decide +kernel
theorem dX8_read_186 : decode cX8_read 186 = .ok (.iadd, 1) := by decide +kernel
theorem dX8_read_187 : decode cX8_read 187 = .ok (.putfield 126, 3) := by decide +kernel
theorem dX8_read_190 : decode cX8_read 190 = .ok (.aload_n 0, 1) := by decide +kernel
theorem dX8_read_191 : decode cX8_read 191 = .ok (.iload_n 1, 1) := by decide +kernel
theorem dX8_read_192 : decode cX8_read 192 = .ok (.bipush 59, 2) := by decide +kernel
theorem dX8_read_194 : decode cX8_read 194 = .ok (.if_icmp .ne 7, 3) := by decide +kernel
theorem dX8_read_197 : decode cX8_read 197 = .ok (.iconst 3, 1) := by decide +kernel
theorem dX8_read_198 : decode cX8_read 198 = .ok (.goto 5, 3) := by decide +kernel
theorem dX8_read_201 : decode cX8_read 201 = .ok (.bipush 9, 2) := by decide +kernel
theorem dX8_read_203 : decode cX8_read 203 = .ok (.putfield 136, 3) := by decide +kernel
theorem dX8_read_206 : decode cX8_read 206 = .ok (.return_, 1) := by decide +kernel
theorem dX8_word_0 : decode cX8_word 0 = .ok (.iconst 0, 1) := by decide +kernel
theorem dX8_word_1 : decode cX8_word 1 = .ok (.istore_n 1, 1) := by decide +kernel
theorem dX8_word_2 : decode cX8_word 2 = .ok (.aload_n 0, 1) := by decide +kernel
theorem dX8_word_3 : decode cX8_word 3 = .ok (.invokevirtual 129, 3) := by decide +kernel
theorem dX8_word_6 : decode cX8_word 6 = .ok (.invokestatic 139, 3) := by decide +kernel
theorem dX8_word_9 : decode cX8_word 9 = .ok (.ifCond .eq 46, 3) := by decide +kernel
theorem dX8_word_12 : decode cX8_word 12 = .ok (.aload_n 0, 1) := by decide +kernel
theorem dX8_word_13 : decode cX8_word 13 = .ok (.getfield 126, 3) := by decide +kernel
theorem dX8_word_16 : decode cX8_word 16 = .ok (.aload_n 0, 1) := by decide +kernel
theorem dX8_word_17 : decode cX8_word 17 = .ok (.getfield 133, 3) := by decide +kernel
theorem dX8_word_20 : decode cX8_word 20 = .ok (.isub, 1) := by decide +kernel
theorem dX8_word_21 : decode cX8_word 21 = .ok (.iconst 5, 1) := by decide +kernel
theorem dX8_word_22 : decode cX8_word 22 = .ok (.if_icmp .ge 18, 3) := by decide +kernel
theorem dX8_word_25 : decode cX8_word 25 = .ok (.bipush 32, 2) := by decide +kernel
theorem dX8_word_27 : decode cX8_word 27 = .ok (.iload_n 1, 1) := by decide +kernel
theorem dX8_word_28 : decode cX8_word 28 = .ok (.imul, 1) := by decide +kernel
theorem dX8_word_29 : decode cX8_word 29 = .ok (.aload_n 0, 1) := by decide +kernel
theorem dX8_word_30 : decode cX8_word 30 = .ok (.invokevirtual 129, 3) := by decide +kernel
theorem dX8_word_33 : decode cX8_word 33 = .ok (.iadd, 1) := by decide +kernel
theorem dX8_word_34 : decode cX8_word 34 = .ok (.bipush 96, 2) := by decide +kernel
theorem dX8_word_36 : decode cX8_word 36 = .ok (.isub, 1) := by decide +kernel
theorem dX8_word_37 : decode cX8_word 37 = .ok (.goto 4, 3) := by decide +kernel
theorem dX8_word_40 : decode cX8_word 40 = .ok (.iconst 0, 1) := by decide +kernel
theorem dX8_word_41 : decode cX8_word 41 = .ok (.istore_n 1, 1) := by decide +kernel
theorem dX8_word_42 : decode cX8_word 42 = .ok (.aload_n 0, 1) := by decide +kernel
theorem dX8_word_43 : decode cX8_word 43 = .ok (.dup, 1) := by decide +kernel
theorem dX8_word_44 : decode cX8_word 44 = .ok (.getfield 126, 3) := by decide +kernel
theorem dX8_word_47 : decode cX8_word 47 = .ok (.iconst 1, 1) := by decide +kernel
theorem dX8_word_48 : decode cX8_word 48 = .ok (.iadd, 1) := by decide +kernel
theorem dX8_word_49 : decode cX8_word 49 = .ok (.putfield 126, 3) := by decide +kernel
theorem dX8_word_52 : decode cX8_word 52 = .ok (.goto (-50), 3) := by decide +kernel
theorem dX8_word_55 : decode cX8_word 55 = .ok (.aload_n 0, 1) := by decide +kernel
theorem dX8_word_56 : decode cX8_word 56 = .ok (.getfield 126, 3) := by decide +kernel
theorem dX8_word_59 : decode cX8_word 59 = .ok (.aload_n 0, 1) := by decide +kernel
theorem dX8_word_60 : decode cX8_word 60 = .ok (.getfield 133, 3) := by decide +kernel
theorem dX8_word_63 : decode cX8_word 63 = .ok (.isub, 1) := by decide +kernel
theorem dX8_word_64 : decode cX8_word 64 = .ok (.iconst 5, 1) := by decide +kernel
theorem dX8_word_65 : decode cX8_word 65 = .ok (.if_icmp .le 7, 3) := by decide +kernel
theorem dX8_word_68 : decode cX8_word 68 = .ok (.iconst 1, 1) := by decide +kernel
theorem dX8_word_69 : decode cX8_word 69 = .ok (.goto 4, 3) := by decide +kernel
theorem dX8_word_72 : decode cX8_word 72 = .ok (.iconst 0, 1) := by decide +kernel
theorem dX8_word_73 : decode cX8_word 73 = .ok (.istore_n 2, 1) := by decide +kernel
theorem dX8_word_74 : decode cX8_word 74 = .ok (.aload_n 0, 1) := by decide +kernel
theorem dX8_word_75 : decode cX8_word 75 = .ok (.iload_n 2, 1) := by decide +kernel
theorem dX8_word_76 : decode cX8_word 76 = .ok (.ifCond .eq 8, 3) := by decide +kernel
theorem dX8_word_79 : decode cX8_word 79 = .ok (.bipush 9, 2) := by decide +kernel
theorem dX8_word_81 : decode cX8_word 81 = .ok (.goto 81, 3) := by decide +kernel
theorem dX8_word_84 : decode cX8_word 84 = .ok (.iload_n 1, 1) := by decide +kernel
theorem dX8_word_85 : decode cX8_word 85 = .ok (.ldc 152, 2) := by decide +kernel
theorem dX8_word_87 : decode cX8_word 87 = .ok (.if_icmp .ne 7, 3) := by decide +kernel
theorem dX8_word_90 : decode cX8_word 90 = .ok (.iconst 4, 1) := by decide +kernel
theorem dX8_word_91 : decode cX8_word 91 = .ok (.goto 71, 3) := by decide +kernel
theorem dX8_word_94 : decode cX8_word 94 = .ok (.iload_n 1, 1) := by decide +kernel
theorem dX8_word_95 : decode cX8_word 95 = .ok (.ldc 153, 2) := by decide +kernel
theorem dX8_word_97 : decode cX8_word 97 = .ok (.if_icmp .ne 7, 3) := by decide +kernel
theorem dX8_word_100 : decode cX8_word 100 = .ok (.iconst 5, 1) := by decide +kernel
theorem dX8_word_101 : decode cX8_word 101 = .ok (.goto 61, 3) := by decide +kernel
theorem dX8_word_104 : decode cX8_word 104 = .ok (.iload_n 1, 1) := by decide +kernel
theorem dX8_word_105 : decode cX8_word 105 = .ok (.ldc 154, 2) := by decide +kernel
theorem dX8_word_107 : decode cX8_word 107 = .ok (.if_icmp .ne 8, 3) := by decide +kernel
theorem dX8_word_110 : decode cX8_word 110 = .ok (.bipush 6, 2) := by decide +kernel
theorem dX8_word_112 : decode cX8_word 112 = .ok (.goto 50, 3) := by decide +kernel
theorem dX8_word_115 : decode cX8_word 115 = .ok (.iload_n 1, 1) := by decide +kernel
theorem dX8_word_116 : decode cX8_word 116 = .ok (.ldc 155, 2) := by decide +kernel
theorem dX8_word_118 : decode cX8_word 118 = .ok (.if_icmp .ne 8, 3) := by decide +kernel
theorem dX8_word_121 : decode cX8_word 121 = .ok (.bipush 7, 2) := by decide +kernel
theorem dX8_word_123 : decode cX8_word 123 = .ok (.goto 39, 3) := by decide +kernel
theorem dX8_word_126 : decode cX8_word 126 = .ok (.iload_n 1, 1) := by decide +kernel
theorem dX8_word_127 : decode cX8_word 127 = .ok (.ldc 156, 2) := by decide +kernel
theorem dX8_word_129 : decode cX8_word 129 = .ok (.if_icmp .ne 8, 3) := by decide +kernel
theorem dX8_word_132 : decode cX8_word 132 = .ok (.bipush 8, 2) := by decide +kernel
theorem dX8_word_134 : decode cX8_word 134 = .ok (.goto 28, 3) := by decide +kernel
theorem dX8_word_137 : decode cX8_word 137 = .ok (.aload_n 0, 1) := by decide +kernel
theorem dX8_word_138 : decode cX8_word 138 = .ok (.getfield 126, 3) := by decide +kernel
theorem dX8_word_141 : decode cX8_word 141 = .ok (.aload_n 0, 1) := by decide +kernel
theorem dX8_word_142 : decode cX8_word 142 = .ok (.getfield 133, 3) := by decide +kernel
theorem dX8_word_145 : decode cX8_word 145 = .ok (.isub, 1) := by decide +kernel
theorem dX8_word_146 : decode cX8_word 146 = .ok (.iconst 1, 1) := by decide +kernel
theorem dX8_word_147 : decode cX8_word 147 = .ok (.if_icmp .ne 13, 3) := by decide +kernel
theorem dX8_word_150 : decode cX8_word 150 = .ok (.iload_n 1, 1) := by decide +kernel
theorem dX8_word_151 : decode cX8_word 151 = .ok (.bipush 12, 2) := by decide +kernel
theorem dX8_word_153 : decode cX8_word 153 = .ok (.if_icmp .gt 7, 3) := by decide +kernel
theorem dX8_word_156 : decode cX8_word 156 = .ok (.iconst 1, 1) := by decide +kernel
theorem dX8_word_157 : decode cX8_word 157 = .ok (.goto 5, 3) := by decide +kernel
theorem dX8_word_160 : decode cX8_word 160 = .ok (.bipush 9, 2) := by decide +kernel
theorem dX8_word_162 : decode cX8_word 162 = .ok (.putfield 136, 3) := by decide +kernel
theorem dX8_word_165 : decode cX8_word 165 = .ok (.aload_n 0, 1) := by decide +kernel
theorem dX8_word_166 : decode cX8_word 166 = .ok (.aload_n 0, 1) := by decide +kernel
theorem dX8_word_167 : decode cX8_word 167 = .ok (.getfield 136, 3) := by decide +kernel
theorem dX8_word_170 : decode cX8_word 170 = .ok (.iconst 1, 1) := by decide +kernel
theorem dX8_word_171 : decode cX8_word 171 = .ok (.if_icmp .ne 9, 3) := by decide +kernel
theorem dX8_word_174 : decode cX8_word 174 = .ok (.iload_n 1, 1) := by decide +kernel
theorem dX8_word_175 : decode cX8_word 175 = .ok (.iconst 1, 1) := by decide +kernel
theorem dX8_word_176 : decode cX8_word 176 = .ok (.isub, 1) := by decide +kernel
theorem dX8_word_177 : decode cX8_word 177 = .ok (.goto 4, 3) := by decide +kernel
theorem dX8_word_180 : decode cX8_word 180 = .ok (.iconst 0, 1) := by decide +kernel
theorem dX8_word_181 : decode cX8_word 181 = .ok (.putfield 149, 3) := by decide +kernel
theorem dX8_word_184 : decode cX8_word 184 = .ok (.return_, 1) := by decide +kernel
theorem dX8_isNumber_0 : decode cX8_isNumber 0 = .ok (.aload_n 0, 1) := by decide +kernel
theorem dX8_isNumber_1 : decode cX8_isNumber 1 = .ok (.getfield 136, 3) := by decide +kernel
theorem dX8_isNumber_4 : decode cX8_isNumber 4 = .ok (.iconst 2, 1) := by decide +kernel
theorem dX8_isNumber_5 : decode cX8_isNumber 5 = .ok (.if_icmp .ne 19, 3) := by decide +kernel
theorem dX8_isNumber_8 : decode cX8_isNumber 8 = .ok (.aload_n 0, 1) := by decide +kernel
theorem dX8_isNumber_9 : decode cX8_isNumber 9 = .ok (.getfield 149, 3) := by decide +kernel
theorem dX8_isNumber_12 : decode cX8_isNumber 12 = .ok (.iload_n 1, 1) := by decide +kernel
theorem dX8_isNumber_13 : decode cX8_isNumber 13 = .ok (.iload_n 2, 1) := by decide +kernel
theorem dX8_isNumber_14 : decode cX8_isNumber 14 = .ok (.invokestatic 116, 3) := by decide +kernel
theorem dX8_isNumber_17 : decode cX8_isNumber 17 = .ok (.ifCond .eq 7, 3) := by decide +kernel
theorem dX8_isNumber_20 : decode cX8_isNumber 20 = .ok (.iconst 1, 1) := by decide +kernel
theorem dX8_isNumber_21 : decode cX8_isNumber 21 = .ok (.goto 4, 3) := by decide +kernel
theorem dX8_isNumber_24 : decode cX8_isNumber 24 = .ok (.iconst 0, 1) := by decide +kernel
theorem dX8_isNumber_25 : decode cX8_isNumber 25 = .ok (.ireturn, 1) := by decide +kernel
theorem dX8_isChip_0 : decode cX8_isChip 0 = .ok (.aload_n 0, 1) := by decide +kernel
theorem dX8_isChip_1 : decode cX8_isChip 1 = .ok (.iconst 0, 1) := by decide +kernel
theorem dX8_isChip_2 : decode cX8_isChip 2 = .ok (.putfield 126, 3) := by decide +kernel
theorem dX8_isChip_5 : decode cX8_isChip 5 = .ok (.aload_n 0, 1) := by decide +kernel
theorem dX8_isChip_6 : decode cX8_isChip 6 = .ok (.invokevirtual 157, 3) := by decide +kernel
theorem dX8_isChip_9 : decode cX8_isChip 9 = .ok (.aload_n 0, 1) := by decide +kernel
theorem dX8_isChip_10 : decode cX8_isChip 10 = .ok (.getfield 136, 3) := by decide +kernel
theorem dX8_isChip_13 : decode cX8_isChip 13 = .ok (.iconst 4, 1) := by decide +kernel
theorem dX8_isChip_14 : decode cX8_isChip 14 = .ok (.if_icmp .eq 5, 3) := by decide +kernel
theorem dX8_isChip_17 : decode cX8_isChip 17 = .ok (.iconst 0, 1) := by decide +kernel
theorem dX8_isChip_18 : decode cX8_isChip 18 = .ok (.ireturn, 1) := by decide +kernel
theorem dX8_isChip_19 : decode cX8_isChip 19 = .ok (.aload_n 0, 1) := by decide +kernel
theorem dX8_isChip_20 : decode cX8_isChip 20 = .ok (.invokevirtual 157, 3) := by decide +kernel
theorem dX8_isChip_23 : decode cX8_isChip 23 = .ok (.aload_n 0, 1) := by decide +kernel
theorem dX8_isChip_24 : decode cX8_isChip 24 = .ok (.iconst 0, 1) := by decide +kernel
theorem dX8_isChip_25 : decode cX8_isChip 25 = .ok (.iconst 5, 1) := by decide +kernel
theorem dX8_isChip_26 : decode cX8_isChip 26 = .ok (.invokevirtual 160, 3) := by decide +kernel
theorem dX8_isChip_29 : decode cX8_isChip 29 = .ok (.ifCond .ne 5, 3) := by decide +kernel
theorem dX8_isChip_32 : decode cX8_isChip 32 = .ok (.iconst 0, 1) := by decide +kernel
theorem dX8_isChip_33 : decode cX8_isChip 33 = .ok (.ireturn, 1) := by decide +kernel
theorem dX8_isChip_34 : decode cX8_isChip 34 = .ok (.aload_n 0, 1) := by decide +kernel
theorem dX8_isChip_35 : decode cX8_isChip 35 = .ok (.aload_n 0, 1) := by decide +kernel
theorem dX8_isChip_36 : decode cX8_isChip 36 = .ok (.getfield 149, 3) := by decide +kernel
theorem dX8_isChip_39 : decode cX8_isChip 39 = .ok (.putfield 164, 3) := by decide +kernel
theorem dX8_isChip_42 : decode cX8_isChip 42 = .ok (.aload_n 0, 1) := by decide +kernel
theorem dX8_isChip_43 : decode cX8_isChip 43 = .ok (.invokevirtual 157, 3) := by decide +kernel
theorem dX8_isChip_46 : decode cX8_isChip 46 = .ok (.aload_n 0, 1) := by decide +kernel
theorem dX8_isChip_47 : decode cX8_isChip 47 = .ok (.aload_n 0, 1) := by decide +kernel
theorem dX8_isChip_48 : decode cX8_isChip 48 = .ok (.getfield 136, 3) := by decide +kernel
theorem dX8_isChip_51 : decode cX8_isChip 51 = .ok (.iconst 5, 1) := by decide +kernel
theorem dX8_isChip_52 : decode cX8_isChip 52 = .ok (.if_icmp .ne 7, 3) := by decide +kernel
theorem dX8_isChip_55 : decode cX8_isChip 55 = .ok (.iconst 1, 1) := by decide +kernel
theorem dX8_isChip_56 : decode cX8_isChip 56 = .ok (.goto 4, 3) := by decide +kernel
theorem dX8_isChip_59 : decode cX8_isChip 59 = .ok (.iconst 0, 1) := by decide +kernel
theorem dX8_isChip_60 : decode cX8_isChip 60 = .ok (.putfield 167, 3) := by decide +kernel
theorem dX8_isChip_63 : decode cX8_isChip 63 = .ok (.aload_n 0, 1) := by decide +kernel
theorem dX8_isChip_64 : decode cX8_isChip 64 = .ok (.getfield 136, 3) := by decide +kernel
theorem dX8_isChip_67 : decode cX8_isChip 67 = .ok (.iconst 5, 1) := by decide +kernel
theorem dX8_isChip_68 : decode cX8_isChip 68 = .ok (.if_icmp .ne 7, 3) := by decide +kernel
theorem dX8_isChip_71 : decode cX8_isChip 71 = .ok (.aload_n 0, 1) := by decide +kernel
theorem dX8_isChip_72 : decode cX8_isChip 72 = .ok (.invokevirtual 157, 3) := by decide +kernel
theorem dX8_isChip_75 : decode cX8_isChip 75 = .ok (.aload_n 0, 1) := by decide +kernel
theorem dX8_isChip_76 : decode cX8_isChip 76 = .ok (.iconst 0, 1) := by decide +kernel
theorem dX8_isChip_77 : decode cX8_isChip 77 = .ok (.putfield 170, 3) := by decide +kernel
theorem dX8_isChip_80 : decode cX8_isChip 80 = .ok (.aload_n 0, 1) := by decide +kernel
theorem dX8_isChip_81 : decode cX8_isChip 81 = .ok (.getfield 136, 3) := by decide +kernel
theorem dX8_isChip_84 : decode cX8_isChip 84 = .ok (.iconst 1, 1) := by decide +kernel
theorem dX8_isChip_85 : decode cX8_isChip 85 = .ok (.if_icmp .ne 71, 3) := by decide +kernel
theorem dX8_isChip_88 : decode cX8_isChip 88 = .ok (.aload_n 0, 1) := by decide +kernel
theorem dX8_isChip_89 : decode cX8_isChip 89 = .ok (.getfield 170, 3) := by decide +kernel
theorem dX8_isChip_92 : decode cX8_isChip 92 = .ok (.bipush 10, 2) := by decide +kernel
theorem dX8_isChip_94 : decode cX8_isChip 94 = .ok (.if_icmp .ge 62, 3) := by decide +kernel
theorem dX8_isChip_97 : decode cX8_isChip 97 = .ok (.aload_n 0, 1) := by decide +kernel
theorem dX8_isChip_98 : decode cX8_isChip 98 = .ok (.getfield 28, 3) := by decide +kernel
theorem dX8_isChip_101 : decode cX8_isChip 101 = .ok (.aload_n 0, 1) := by decide +kernel
theorem dX8_isChip_102 : decode cX8_isChip 102 = .ok (.getfield 170, 3) := by decide +kernel
theorem dX8_isChip_105 : decode cX8_isChip 105 = .ok (.aload_n 0, 1) := by decide +kernel
theorem dX8_isChip_106 : decode cX8_isChip 106 = .ok (.getfield 149, 3) := by decide +kernel
theorem dX8_isChip_109 : decode cX8_isChip 109 = .ok (.iastore, 1) := by decide +kernel
theorem dX8_isChip_110 : decode cX8_isChip 110 = .ok (.aload_n 0, 1) := by decide +kernel
theorem dX8_isChip_111 : decode cX8_isChip 111 = .ok (.invokevirtual 157, 3) := by decide +kernel
theorem dX8_isChip_114 : decode cX8_isChip 114 = .ok (.aload_n 0, 1) := by decide +kernel
theorem dX8_isChip_115 : decode cX8_isChip 115 = .ok (.iconst 0, 1) := by decide +kernel
theorem dX8_isChip_116 : decode cX8_isChip 116 = .ok (.bipush 9, 2) := by decide +kernel
theorem dX8_isChip_118 : decode cX8_isChip 118 = .ok (.invokevirtual 160, 3) := by decide +kernel
theorem dX8_isChip_121 : decode cX8_isChip 121 = .ok (.ifCond .ne 5, 3) := by decide +kernel
theorem dX8_isChip_124 : decode cX8_isChip 124 = .ok (.iconst 0, 1) := by decide +kernel
theorem dX8_isChip_125 : decode cX8_isChip 125 = .ok (.ireturn, 1) := by decide +kernel
theorem dX8_isChip_126 : decode cX8_isChip 126 = .ok (.aload_n 0, 1) := by decide +kernel
theorem dX8_isChip_127 : decode cX8_isChip 127 = .ok (.getfield 31, 3) := by decide +kernel
theorem dX8_isChip_130 : decode cX8_isChip 130 = .ok (.aload_n 0, 1) := by decide +kernel
theorem dX8_isChip_131 : decode cX8_isChip 131 = .ok (.getfield 170, 3) := by decide +kernel
theorem dX8_isChip_134 : decode cX8_isChip 134 = .ok (.aload_n 0, 1) := by decide +kernel
theorem dX8_isChip_135 : decode cX8_isChip 135 = .ok (.getfield 149, 3) := by decide +kernel
theorem dX8_isChip_138 : decode cX8_isChip 138 = .ok (.iastore, 1) := by decide +kernel
theorem dX8_isChip_139 : decode cX8_isChip 139 = .ok (.aload_n 0, 1) := by decide +kernel
theorem dX8_isChip_140 : decode cX8_isChip 140 = .ok (.dup, 1) := by decide +kernel
theorem dX8_isChip_141 : decode cX8_isChip 141 = .ok (.getfield 170, 3) := by decide +kernel
theorem dX8_isChip_144 : decode cX8_isChip 144 = .ok (.iconst 1, 1) := by decide +kernel
theorem dX8_isChip_145 : decode cX8_isChip 145 = .ok (.iadd, 1) := by decide +kernel
theorem dX8_isChip_146 : decode cX8_isChip 146 = .ok (.putfield 170, 3) := by decide +kernel
theorem dX8_isChip_149 : decode cX8_isChip 149 = .ok (.aload_n 0, 1) := by decide +kernel
theorem dX8_isChip_150 : decode cX8_isChip 150 = .ok (.invokevirtual 157, 3) := by decide +kernel
theorem dX8_isChip_153 : decode cX8_isChip 153 = .ok (.goto (-73), 3) := by decide +kernel
theorem dX8_isChip_156 : decode cX8_isChip 156 = .ok (.aload_n 0, 1) := by decide +kernel
theorem dX8_isChip_157 : decode cX8_isChip 157 = .ok (.getfield 136, 3) := by decide +kernel
theorem dX8_isChip_160 : decode cX8_isChip 160 = .ok (.iconst 3, 1) := by decide +kernel
theorem dX8_isChip_161 : decode cX8_isChip 161 = .ok (.if_icmp .ne 10, 3) := by decide +kernel
theorem dX8_isChip_164 : decode cX8_isChip 164 = .ok (.aload_n 0, 1) := by decide +kernel
theorem dX8_isChip_165 : decode cX8_isChip 165 = .ok (.getfield 170, 3) := by decide +kernel
theorem dX8_isChip_168 : decode cX8_isChip 168 = .ok (.ifCond .ne 5, 3) := by decide +kernel
theorem dX8_isChip_171 : decode cX8_isChip 171 = .ok (.iconst 0, 1) := by decide +kernel
theorem dX8_isChip_172 : decode cX8_isChip 172 = .ok (.ireturn, 1) := by decide +kernel
theorem dX8_isChip_173 : decode cX8_isChip 173 = .ok (.aload_n 0, 1) := by decide +kernel
theorem dX8_isChip_174 : decode cX8_isChip 174 = .ok (.invokevirtual 157, 3) := by decide +kernel
theorem dX8_isChip_177 : decode cX8_isChip 177 = .ok (.aload_n 0, 1) := by decide +kernel
theorem dX8_isChip_178 : decode cX8_isChip 178 = .ok (.getfield 136, 3) := by decide +kernel
theorem dX8_isChip_181 : decode cX8_isChip 181 = .ok (.ifCond .ne 7, 3) := by decide +kernel
theorem dX8_isChip_184 : decode cX8_isChip 184 = .ok (.iconst 1, 1) := by decide +kernel
theorem dX8_isChip_185 : decode cX8_isChip 185 = .ok (.goto 4, 3) := by decide +kernel
theorem dX8_isChip_188 : decode cX8_isChip 188 = .ok (.iconst 0, 1) := by decide +kernel
theorem dX8_isChip_189 : decode cX8_isChip 189 = .ok (.ireturn, 1) := by decide +kernel
theorem dX8_chip_0 : decode cX8_chip 0 = .ok (.aload_n 0, 1) := by decide +kernel
theorem dX8_chip_1 : decode cX8_chip 1 = .ok (.getfield 173, 3) := by decide +kernel
theorem dX8_chip_4 : decode cX8_chip 4 = .ok (.iconst 4, 1) := by decide +kernel
theorem dX8_chip_5 : decode cX8_chip 5 = .ok (.if_icmp .ne 6, 3) := by decide +kernel
theorem dX8_chip_8 : decode cX8_chip 8 = .ok (.bipush (-3), 2) := by decide +kernel
theorem dX8_chip_10 : decode cX8_chip 10 = .ok (.ireturn, 1) := by decide +kernel
theorem dX8_chip_11 : decode cX8_chip 11 = .ok (.aload_n 0, 1) := by decide +kernel
theorem dX8_chip_12 : decode cX8_chip 12 = .ok (.invokevirtual 176, 3) := by decide +kernel
theorem dX8_chip_15 : decode cX8_chip 15 = .ok (.ifCond .ne 11, 3) := by decide +kernel
theorem dX8_chip_18 : decode cX8_chip 18 = .ok (.bipush (-10), 2) := by decide +kernel
theorem dX8_chip_20 : decode cX8_chip 20 = .ok (.aload_n 0, 1) := by decide +kernel
theorem dX8_chip_21 : decode cX8_chip 21 = .ok (.getfield 133, 3) := by decide +kernel
theorem dX8_chip_24 : decode cX8_chip 24 = .ok (.isub, 1) := by decide +kernel
theorem dX8_chip_25 : decode cX8_chip 25 = .ok (.ireturn, 1) := by decide +kernel
theorem dX8_chip_26 : decode cX8_chip 26 = .ok (.aload_n 0, 1) := by decide +kernel
theorem dX8_chip_27 : decode cX8_chip 27 = .ok (.getfield 13, 3) := by decide +kernel
theorem dX8_chip_30 : decode cX8_chip 30 = .ok (.aload_n 0, 1) := by decide +kernel
theorem dX8_chip_31 : decode cX8_chip 31 = .ok (.getfield 173, 3) := by decide +kernel
theorem dX8_chip_34 : decode cX8_chip 34 = .ok (.aload_n 0, 1) := by decide +kernel
theorem dX8_chip_35 : decode cX8_chip 35 = .ok (.getfield 164, 3) := by decide +kernel
theorem dX8_chip_38 : decode cX8_chip 38 = .ok (.iastore, 1) := by decide +kernel
theorem dX8_chip_39 : decode cX8_chip 39 = .ok (.aload_n 0, 1) := by decide +kernel
theorem dX8_chip_40 : decode cX8_chip 40 = .ok (.getfield 16, 3) := by decide +kernel
theorem dX8_chip_43 : decode cX8_chip 43 = .ok (.aload_n 0, 1) := by decide +kernel
theorem dX8_chip_44 : decode cX8_chip 44 = .ok (.getfield 173, 3) := by decide +kernel
theorem dX8_chip_47 : decode cX8_chip 47 = .ok (.aload_n 0, 1) := by decide +kernel
theorem dX8_chip_48 : decode cX8_chip 48 = .ok (.getfield 167, 3) := by decide +kernel
theorem dX8_chip_51 : decode cX8_chip 51 = .ok (.iastore, 1) := by decide +kernel
theorem dX8_chip_52 : decode cX8_chip 52 = .ok (.aload_n 0, 1) := by decide +kernel
theorem dX8_chip_53 : decode cX8_chip 53 = .ok (.getfield 19, 3) := by decide +kernel
theorem dX8_chip_56 : decode cX8_chip 56 = .ok (.aload_n 0, 1) := by decide +kernel
theorem dX8_chip_57 : decode cX8_chip 57 = .ok (.getfield 173, 3) := by decide +kernel
theorem dX8_chip_60 : decode cX8_chip 60 = .ok (.aload_n 0, 1) := by decide +kernel
theorem dX8_chip_61 : decode cX8_chip 61 = .ok (.getfield 170, 3) := by decide +kernel
theorem dX8_chip_64 : decode cX8_chip 64 = .ok (.iastore, 1) := by decide +kernel
theorem dX8_chip_65 : decode cX8_chip 65 = .ok (.iconst 0, 1) := by decide +kernel
theorem dX8_chip_66 : decode cX8_chip 66 = .ok (.istore_n 1, 1) := by decide +kernel
theorem dX8_chip_67 : decode cX8_chip 67 = .ok (.iload_n 1, 1) := by decide +kernel
theorem dX8_chip_68 : decode cX8_chip 68 = .ok (.aload_n 0, 1) := by decide +kernel
theorem dX8_chip_69 : decode cX8_chip 69 = .ok (.getfield 170, 3) := by decide +kernel
theorem dX8_chip_72 : decode cX8_chip 72 = .ok (.if_icmp .ge 49, 3) := by decide +kernel
theorem dX8_chip_75 : decode cX8_chip 75 = .ok (.aload_n 0, 1) := by decide +kernel
theorem dX8_chip_76 : decode cX8_chip 76 = .ok (.getfield 22, 3) := by decide +kernel
theorem dX8_chip_79 : decode cX8_chip 79 = .ok (.bipush 10, 2) := by decide +kernel
theorem dX8_chip_81 : decode cX8_chip 81 = .ok (.aload_n 0, 1) := by decide +kernel
theorem dX8_chip_82 : decode cX8_chip 82 = .ok (.getfield 173, 3) := by decide +kernel
theorem dX8_chip_85 : decode cX8_chip 85 = .ok (.imul, 1) := by decide +kernel
theorem dX8_chip_86 : decode cX8_chip 86 = .ok (.iload_n 1, 1) := by decide +kernel
theorem dX8_chip_87 : decode cX8_chip 87 = .ok (.iadd, 1) := by decide +kernel
theorem dX8_chip_88 : decode cX8_chip 88 = .ok (.aload_n 0, 1) := by decide +kernel
theorem dX8_chip_89 : decode cX8_chip 89 = .ok (.getfield 28, 3) := by decide +kernel
theorem dX8_chip_92 : decode cX8_chip 92 = .ok (.iload_n 1, 1) := by decide +kernel
theorem dX8_chip_93 : decode cX8_chip 93 = .ok (.iaload, 1) := by decide +kernel
theorem dX8_chip_94 : decode cX8_chip 94 = .ok (.iastore, 1) := by decide +kernel
theorem dX8_chip_95 : decode cX8_chip 95 = .ok (.aload_n 0, 1) := by decide +kernel
theorem dX8_chip_96 : decode cX8_chip 96 = .ok (.getfield 25, 3) := by decide +kernel
theorem dX8_chip_99 : decode cX8_chip 99 = .ok (.bipush 10, 2) := by decide +kernel
theorem dX8_chip_101 : decode cX8_chip 101 = .ok (.aload_n 0, 1) := by decide +kernel
theorem dX8_chip_102 : decode cX8_chip 102 = .ok (.getfield 173, 3) := by decide +kernel
theorem dX8_chip_105 : decode cX8_chip 105 = .ok (.imul, 1) := by decide +kernel
theorem dX8_chip_106 : decode cX8_chip 106 = .ok (.iload_n 1, 1) := by decide +kernel
theorem dX8_chip_107 : decode cX8_chip 107 = .ok (.iadd, 1) := by decide +kernel
theorem dX8_chip_108 : decode cX8_chip 108 = .ok (.aload_n 0, 1) := by decide +kernel
theorem dX8_chip_109 : decode cX8_chip 109 = .ok (.getfield 31, 3) := by decide +kernel
theorem dX8_chip_112 : decode cX8_chip 112 = .ok (.iload_n 1, 1) := by decide +kernel
theorem dX8_chip_113 : decode cX8_chip 113 = .ok (.iaload, 1) := by decide +kernel
theorem dX8_chip_114 : decode cX8_chip 114 = .ok (.iastore, 1) := by decide +kernel
theorem dX8_chip_115 : decode cX8_chip 115 = .ok (.iinc 1 1, 3) := by decide +kernel
theorem dX8_chip_118 : decode cX8_chip 118 = .ok (.goto (-51), 3) := by decide +kernel
theorem dX8_chip_121 : decode cX8_chip 121 = .ok (.aload_n 0, 1) := by decide +kernel
theorem dX8_chip_122 : decode cX8_chip 122 = .ok (.dup, 1) := by decide +kernel
theorem dX8_chip_123 : decode cX8_chip 123 = .ok (.getfield 173, 3) := by decide +kernel
theorem dX8_chip_126 : decode cX8_chip 126 = .ok (.iconst 1, 1) := by decide +kernel
theorem dX8_chip_127 : decode cX8_chip 127 = .ok (.iadd, 1) := by decide +kernel
theorem dX8_chip_128 : decode cX8_chip 128 = .ok (.putfield 173, 3) := by decide +kernel
theorem dX8_chip_131 : decode cX8_chip 131 = .ok (.aload_n 0, 1) := by decide +kernel
theorem dX8_chip_132 : decode cX8_chip 132 = .ok (.iconst 0, 1) := by decide +kernel
theorem dX8_chip_133 : decode cX8_chip 133 = .ok (.putfield 120, 3) := by decide +kernel
theorem dX8_chip_136 : decode cX8_chip 136 = .ok (.aload_n 0, 1) := by decide +kernel
theorem dX8_chip_137 : decode cX8_chip 137 = .ok (.iconst 0, 1) := by decide +kernel
theorem dX8_chip_138 : decode cX8_chip 138 = .ok (.putfield 180, 3) := by decide +kernel
theorem dX8_chip_141 : decode cX8_chip 141 = .ok (.aload_n 0, 1) := by decide +kernel
theorem dX8_chip_142 : decode cX8_chip 142 = .ok (.getfield 173, 3) := by decide +kernel
theorem dX8_chip_145 : decode cX8_chip 145 = .ok (.iconst 1, 1) := by decide +kernel
theorem dX8_chip_146 : decode cX8_chip 146 = .ok (.isub, 1) := by decide +kernel
theorem dX8_chip_147 : decode cX8_chip 147 = .ok (.ireturn, 1) := by decide +kernel
theorem dX8_isStuff_0 : decode cX8_isStuff 0 = .ok (.aload_n 0, 1) := by decide +kernel
theorem dX8_isStuff_1 : decode cX8_isStuff 1 = .ok (.invokevirtual 157, 3) := by decide +kernel
theorem dX8_isStuff_4 : decode cX8_isStuff 4 = .ok (.aload_n 0, 1) := by decide +kernel
theorem dX8_isStuff_5 : decode cX8_isStuff 5 = .ok (.getfield 136, 3) := by decide +kernel
theorem dX8_isStuff_8 : decode cX8_isStuff 8 = .ok (.iconst 1, 1) := by decide +kernel
theorem dX8_isStuff_9 : decode cX8_isStuff 9 = .ok (.if_icmp .eq 5, 3) := by decide +kernel
theorem dX8_isStuff_12 : decode cX8_isStuff 12 = .ok (.iconst 0, 1) := by decide +kernel
theorem dX8_isStuff_13 : decode cX8_isStuff 13 = .ok (.ireturn, 1) := by decide +kernel
theorem dX8_isStuff_14 : decode cX8_isStuff 14 = .ok (.aload_n 0, 1) := by decide +kernel
theorem dX8_isStuff_15 : decode cX8_isStuff 15 = .ok (.getfield 149, 3) := by decide +kernel
theorem dX8_isStuff_18 : decode cX8_isStuff 18 = .ok (.istore_n 1, 1) := by decide +kernel
theorem dX8_isStuff_19 : decode cX8_isStuff 19 = .ok (.aload_n 0, 1) := by decide +kernel
theorem dX8_isStuff_20 : decode cX8_isStuff 20 = .ok (.invokevirtual 157, 3) := by decide +kernel
theorem dX8_isStuff_23 : decode cX8_isStuff 23 = .ok (.aload_n 0, 1) := by decide +kernel
theorem dX8_isStuff_24 : decode cX8_isStuff 24 = .ok (.iconst 0, 1) := by decide +kernel
theorem dX8_isStuff_25 : decode cX8_isStuff 25 = .ok (.sipush 999, 3) := by decide +kernel
theorem dX8_isStuff_28 : decode cX8_isStuff 28 = .ok (.invokevirtual 160, 3) := by decide +kernel
theorem dX8_isStuff_31 : decode cX8_isStuff 31 = .ok (.ifCond .ne 5, 3) := by decide +kernel
theorem dX8_isStuff_34 : decode cX8_isStuff 34 = .ok (.iconst 0, 1) := by decide +kernel
theorem dX8_isStuff_35 : decode cX8_isStuff 35 = .ok (.ireturn, 1) := by decide +kernel
theorem dX8_isStuff_36 : decode cX8_isStuff 36 = .ok (.aload_n 0, 1) := by decide +kernel
theorem dX8_isStuff_37 : decode cX8_isStuff 37 = .ok (.getfield 149, 3) := by decide +kernel
theorem dX8_isStuff_40 : decode cX8_isStuff 40 = .ok (.istore_n 2, 1) := by decide +kernel
theorem dX8_isStuff_41 : decode cX8_isStuff 41 = .ok (.aload_n 0, 1) := by decide +kernel
theorem dX8_isStuff_42 : decode cX8_isStuff 42 = .ok (.invokevirtual 157, 3) := by decide +kernel
theorem dX8_isStuff_45 : decode cX8_isStuff 45 = .ok (.aload_n 0, 1) := by decide +kernel
theorem dX8_isStuff_46 : decode cX8_isStuff 46 = .ok (.iload_n 2, 1) := by decide +kernel
theorem dX8_isStuff_47 : decode cX8_isStuff 47 = .ok (.sipush 999, 3) := by decide +kernel
theorem dX8_isStuff_50 : decode cX8_isStuff 50 = .ok (.invokevirtual 160, 3) := by decide +kernel
theorem dX8_isStuff_53 : decode cX8_isStuff 53 = .ok (.ifCond .ne 5, 3) := by decide +kernel
theorem dX8_isStuff_56 : decode cX8_isStuff 56 = .ok (.iconst 0, 1) := by decide +kernel
theorem dX8_isStuff_57 : decode cX8_isStuff 57 = .ok (.ireturn, 1) := by decide +kernel
theorem dX8_isStuff_58 : decode cX8_isStuff 58 = .ok (.aload_n 0, 1) := by decide +kernel
theorem dX8_isStuff_59 : decode cX8_isStuff 59 = .ok (.getfield 149, 3) := by decide +kernel
theorem dX8_isStuff_62 : decode cX8_isStuff 62 = .ok (.istore_n 3, 1) := by decide +kernel
theorem dX8_isStuff_63 : decode cX8_isStuff 63 = .ok (.aload_n 0, 1) := by decide +kernel
theorem dX8_isStuff_64 : decode cX8_isStuff 64 = .ok (.invokevirtual 157, 3) := by decide +kernel
theorem dX8_isStuff_67 : decode cX8_isStuff 67 = .ok (.aload_n 0, 1) := by decide +kernel
theorem dX8_isStuff_68 : decode cX8_isStuff 68 = .ok (.getfield 136, 3) := by decide +kernel
theorem dX8_isStuff_71 : decode cX8_isStuff 71 = .ok (.iconst 3, 1) := by decide +kernel
theorem dX8_isStuff_72 : decode cX8_isStuff 72 = .ok (.if_icmp .eq 5, 3) := by decide +kernel
theorem dX8_isStuff_75 : decode cX8_isStuff 75 = .ok (.iconst 0, 1) := by decide +kernel
theorem dX8_isStuff_76 : decode cX8_isStuff 76 = .ok (.ireturn, 1) := by decide +kernel
theorem dX8_isStuff_77 : decode cX8_isStuff 77 = .ok (.aload_n 0, 1) := by decide +kernel
theorem dX8_isStuff_78 : decode cX8_isStuff 78 = .ok (.getfield 49, 3) := by decide +kernel
theorem dX8_isStuff_81 : decode cX8_isStuff 81 = .ok (.iload_n 1, 1) := by decide +kernel
theorem dX8_isStuff_82 : decode cX8_isStuff 82 = .ok (.iload_n 2, 1) := by decide +kernel
theorem dX8_isStuff_83 : decode cX8_isStuff 83 = .ok (.iastore, 1) := by decide +kernel
theorem dX8_isStuff_84 : decode cX8_isStuff 84 = .ok (.aload_n 0, 1) := by decide +kernel
theorem dX8_isStuff_85 : decode cX8_isStuff 85 = .ok (.getfield 52, 3) := by decide +kernel
theorem dX8_isStuff_88 : decode cX8_isStuff 88 = .ok (.iload_n 1, 1) := by decide +kernel
theorem dX8_isStuff_89 : decode cX8_isStuff 89 = .ok (.iload_n 3, 1) := by decide +kernel
theorem dX8_isStuff_90 : decode cX8_isStuff 90 = .ok (.iastore, 1) := by decide +kernel
theorem dX8_isStuff_91 : decode cX8_isStuff 91 = .ok (.iconst 1, 1) := by decide +kernel
theorem dX8_isStuff_92 : decode cX8_isStuff 92 = .ok (.ireturn, 1) := by decide +kernel
theorem dX8_areAlike_0 : decode cX8_areAlike 0 = .ok (.aload_n 0, 1) := by decide +kernel
theorem dX8_areAlike_1 : decode cX8_areAlike 1 = .ok (.invokevirtual 157, 3) := by decide +kernel
theorem dX8_areAlike_4 : decode cX8_areAlike 4 = .ok (.aload_n 0, 1) := by decide +kernel
theorem dX8_areAlike_5 : decode cX8_areAlike 5 = .ok (.getfield 136, 3) := by decide +kernel
theorem dX8_areAlike_8 : decode cX8_areAlike 8 = .ok (.iconst 1, 1) := by decide +kernel
theorem dX8_areAlike_9 : decode cX8_areAlike 9 = .ok (.if_icmp .eq 5, 3) := by decide +kernel
theorem dX8_areAlike_12 : decode cX8_areAlike 12 = .ok (.iconst 0, 1) := by decide +kernel
theorem dX8_areAlike_13 : decode cX8_areAlike 13 = .ok (.ireturn, 1) := by decide +kernel
theorem dX8_areAlike_14 : decode cX8_areAlike 14 = .ok (.aload_n 0, 1) := by decide +kernel
theorem dX8_areAlike_15 : decode cX8_areAlike 15 = .ok (.getfield 149, 3) := by decide +kernel
theorem dX8_areAlike_18 : decode cX8_areAlike 18 = .ok (.istore_n 1, 1) := by decide +kernel
theorem dX8_areAlike_19 : decode cX8_areAlike 19 = .ok (.aload_n 0, 1) := by decide +kernel
theorem dX8_areAlike_20 : decode cX8_areAlike 20 = .ok (.invokevirtual 157, 3) := by decide +kernel
theorem dX8_areAlike_23 : decode cX8_areAlike 23 = .ok (.aload_n 0, 1) := by decide +kernel
theorem dX8_areAlike_24 : decode cX8_areAlike 24 = .ok (.getfield 136, 3) := by decide +kernel
theorem dX8_areAlike_27 : decode cX8_areAlike 27 = .ok (.iconst 1, 1) := by decide +kernel
theorem dX8_areAlike_28 : decode cX8_areAlike 28 = .ok (.if_icmp .ne 11, 3) := by decide +kernel
theorem dX8_areAlike_31 : decode cX8_areAlike 31 = .ok (.aload_n 0, 1) := by decide +kernel
theorem dX8_areAlike_32 : decode cX8_areAlike 32 = .ok (.getfield 149, 3) := by decide +kernel
theorem dX8_areAlike_35 : decode cX8_areAlike 35 = .ok (.iload_n 1, 1) := by decide +kernel
theorem dX8_areAlike_36 : decode cX8_areAlike 36 = .ok (.if_icmp .ne 5, 3) := by decide +kernel
theorem dX8_areAlike_39 : decode cX8_areAlike 39 = .ok (.iconst 0, 1) := by decide +kernel
theorem dX8_areAlike_40 : decode cX8_areAlike 40 = .ok (.ireturn, 1) := by decide +kernel
theorem dX8_areAlike_41 : decode cX8_areAlike 41 = .ok (.aload_n 0, 1) := by decide +kernel
theorem dX8_areAlike_42 : decode cX8_areAlike 42 = .ok (.getfield 149, 3) := by decide +kernel
theorem dX8_areAlike_45 : decode cX8_areAlike 45 = .ok (.istore_n 2, 1) := by decide +kernel
theorem dX8_areAlike_46 : decode cX8_areAlike 46 = .ok (.aload_n 0, 1) := by decide +kernel
theorem dX8_areAlike_47 : decode cX8_areAlike 47 = .ok (.invokevirtual 157, 3) := by decide +kernel
theorem dX8_areAlike_50 : decode cX8_areAlike 50 = .ok (.aload_n 0, 1) := by decide +kernel
theorem dX8_areAlike_51 : decode cX8_areAlike 51 = .ok (.getfield 136, 3) := by decide +kernel
theorem dX8_areAlike_54 : decode cX8_areAlike 54 = .ok (.iconst 3, 1) := by decide +kernel
theorem dX8_areAlike_55 : decode cX8_areAlike 55 = .ok (.if_icmp .eq 5, 3) := by decide +kernel
theorem dX8_areAlike_58 : decode cX8_areAlike 58 = .ok (.iconst 0, 1) := by decide +kernel
theorem dX8_areAlike_59 : decode cX8_areAlike 59 = .ok (.ireturn, 1) := by decide +kernel
theorem dX8_areAlike_60 : decode cX8_areAlike 60 = .ok (.aload_n 0, 1) := by decide +kernel
theorem dX8_areAlike_61 : decode cX8_areAlike 61 = .ok (.getfield 55, 3) := by decide +kernel
theorem dX8_areAlike_64 : decode cX8_areAlike 64 = .ok (.iload_n 1, 1) := by decide +kernel
theorem dX8_areAlike_65 : decode cX8_areAlike 65 = .ok (.aload_n 0, 1) := by decide +kernel
theorem dX8_areAlike_66 : decode cX8_areAlike 66 = .ok (.getfield 55, 3) := by decide +kernel
theorem dX8_areAlike_69 : decode cX8_areAlike 69 = .ok (.iload_n 1, 1) := by decide +kernel
theorem dX8_areAlike_70 : decode cX8_areAlike 70 = .ok (.iaload, 1) := by decide +kernel
theorem dX8_areAlike_71 : decode cX8_areAlike 71 = .ok (.iconst 1, 1) := by decide +kernel
theorem dX8_areAlike_72 : decode cX8_areAlike 72 = .ok (.iload_n 2, 1) := by decide +kernel
theorem dX8_areAlike_73 : decode cX8_areAlike 73 = .ok (.ishl, 1) := by decide +kernel
theorem dX8_areAlike_74 : decode cX8_areAlike 74 = .ok (.ior, 1) := by decide +kernel
theorem dX8_areAlike_75 : decode cX8_areAlike 75 = .ok (.iastore, 1) := by decide +kernel
theorem dX8_areAlike_76 : decode cX8_areAlike 76 = .ok (.aload_n 0, 1) := by decide +kernel
theorem dX8_areAlike_77 : decode cX8_areAlike 77 = .ok (.getfield 55, 3) := by decide +kernel
theorem dX8_areAlike_80 : decode cX8_areAlike 80 = .ok (.iload_n 2, 1) := by decide +kernel
theorem dX8_areAlike_81 : decode cX8_areAlike 81 = .ok (.aload_n 0, 1) := by decide +kernel
theorem dX8_areAlike_82 : decode cX8_areAlike 82 = .ok (.getfield 55, 3) := by decide +kernel
theorem dX8_areAlike_85 : decode cX8_areAlike 85 = .ok (.iload_n 2, 1) := by decide +kernel
theorem dX8_areAlike_86 : decode cX8_areAlike 86 = .ok (.iaload, 1) := by decide +kernel
theorem dX8_areAlike_87 : decode cX8_areAlike 87 = .ok (.iconst 1, 1) := by decide +kernel
theorem dX8_areAlike_88 : decode cX8_areAlike 88 = .ok (.iload_n 1, 1) := by decide +kernel
theorem dX8_areAlike_89 : decode cX8_areAlike 89 = .ok (.ishl, 1) := by decide +kernel
theorem dX8_areAlike_90 : decode cX8_areAlike 90 = .ok (.ior, 1) := by decide +kernel
theorem dX8_areAlike_91 : decode cX8_areAlike 91 = .ok (.iastore, 1) := by decide +kernel
theorem dX8_areAlike_92 : decode cX8_areAlike 92 = .ok (.iconst 1, 1) := by decide +kernel
theorem dX8_areAlike_93 : decode cX8_areAlike 93 = .ok (.ireturn, 1) := by decide +kernel
theorem dX8_isBill_0 : decode cX8_isBill 0 = .ok (.aload_n 0, 1) := by decide +kernel
theorem dX8_isBill_1 : decode cX8_isBill 1 = .ok (.getfield 184, 3) := by decide +kernel
theorem dX8_isBill_4 : decode cX8_isBill 4 = .ok (.bipush 8, 2) := by decide +kernel
theorem dX8_isBill_6 : decode cX8_isBill 6 = .ok (.if_icmp .ne 5, 3) := by decide +kernel
theorem dX8_isBill_9 : decode cX8_isBill 9 = .ok (.iconst 0, 1) := by decide +kernel
theorem dX8_isBill_10 : decode cX8_isBill 10 = .ok (.ireturn, 1) := by decide +kernel
theorem dX8_isBill_11 : decode cX8_isBill 11 = .ok (.aload_n 0, 1) := by decide +kernel
theorem dX8_isBill_12 : decode cX8_isBill 12 = .ok (.invokevirtual 157, 3) := by decide +kernel
theorem dX8_isBill_15 : decode cX8_isBill 15 = .ok (.aload_n 0, 1) := by decide +kernel
theorem dX8_isBill_16 : decode cX8_isBill 16 = .ok (.iconst 0, 1) := by decide +kernel
theorem dX8_isBill_17 : decode cX8_isBill 17 = .ok (.sipush 999, 3) := by decide +kernel
theorem dX8_isBill_20 : decode cX8_isBill 20 = .ok (.invokevirtual 160, 3) := by decide +kernel
theorem dX8_isBill_23 : decode cX8_isBill 23 = .ok (.ifCond .ne 5, 3) := by decide +kernel
theorem dX8_isBill_26 : decode cX8_isBill 26 = .ok (.iconst 0, 1) := by decide +kernel
theorem dX8_isBill_27 : decode cX8_isBill 27 = .ok (.ireturn, 1) := by decide +kernel
theorem dX8_isBill_28 : decode cX8_isBill 28 = .ok (.aload_n 0, 1) := by decide +kernel
theorem dX8_isBill_29 : decode cX8_isBill 29 = .ok (.getfield 58, 3) := by decide +kernel
theorem dX8_isBill_32 : decode cX8_isBill 32 = .ok (.aload_n 0, 1) := by decide +kernel
theorem dX8_isBill_33 : decode cX8_isBill 33 = .ok (.getfield 184, 3) := by decide +kernel
theorem dX8_isBill_36 : decode cX8_isBill 36 = .ok (.aload_n 0, 1) := by decide +kernel
theorem dX8_isBill_37 : decode cX8_isBill 37 = .ok (.getfield 149, 3) := by decide +kernel
theorem dX8_isBill_40 : decode cX8_isBill 40 = .ok (.iastore, 1) := by decide +kernel
theorem dX8_isBill_41 : decode cX8_isBill 41 = .ok (.aload_n 0, 1) := by decide +kernel
theorem dX8_isBill_42 : decode cX8_isBill 42 = .ok (.invokevirtual 157, 3) := by decide +kernel
theorem dX8_isBill_45 : decode cX8_isBill 45 = .ok (.aload_n 0, 1) := by decide +kernel
theorem dX8_isBill_46 : decode cX8_isBill 46 = .ok (.getfield 136, 3) := by decide +kernel
theorem dX8_isBill_49 : decode cX8_isBill 49 = .ok (.iconst 1, 1) := by decide +kernel
theorem dX8_isBill_50 : decode cX8_isBill 50 = .ok (.if_icmp .eq 5, 3) := by decide +kernel
theorem dX8_isBill_53 : decode cX8_isBill 53 = .ok (.iconst 0, 1) := by decide +kernel
theorem dX8_isBill_54 : decode cX8_isBill 54 = .ok (.ireturn, 1) := by decide +kernel
theorem dX8_isBill_55 : decode cX8_isBill 55 = .ok (.aload_n 0, 1) := by decide +kernel
theorem dX8_isBill_56 : decode cX8_isBill 56 = .ok (.getfield 61, 3) := by decide +kernel
theorem dX8_isBill_59 : decode cX8_isBill 59 = .ok (.aload_n 0, 1) := by decide +kernel
theorem dX8_isBill_60 : decode cX8_isBill 60 = .ok (.getfield 184, 3) := by decide +kernel
theorem dX8_isBill_63 : decode cX8_isBill 63 = .ok (.aload_n 0, 1) := by decide +kernel
theorem dX8_isBill_64 : decode cX8_isBill 64 = .ok (.getfield 149, 3) := by decide +kernel
theorem dX8_isBill_67 : decode cX8_isBill 67 = .ok (.iastore, 1) := by decide +kernel
theorem dX8_isBill_68 : decode cX8_isBill 68 = .ok (.aload_n 0, 1) := by decide +kernel
theorem dX8_isBill_69 : decode cX8_isBill 69 = .ok (.invokevirtual 157, 3) := by decide +kernel
theorem dX8_isBill_72 : decode cX8_isBill 72 = .ok (.aload_n 0, 1) := by decide +kernel
theorem dX8_isBill_73 : decode cX8_isBill 73 = .ok (.getfield 136, 3) := by decide +kernel
theorem dX8_isBill_76 : decode cX8_isBill 76 = .ok (.iconst 3, 1) := by decide +kernel
theorem dX8_isBill_77 : decode cX8_isBill 77 = .ok (.if_icmp .eq 5, 3) := by decide +kernel
theorem dX8_isBill_80 : decode cX8_isBill 80 = .ok (.iconst 0, 1) := by decide +kernel
theorem dX8_isBill_81 : decode cX8_isBill 81 = .ok (.ireturn, 1) := by decide +kernel
theorem dX8_isBill_82 : decode cX8_isBill 82 = .ok (.aload_n 0, 1) := by decide +kernel
theorem dX8_isBill_83 : decode cX8_isBill 83 = .ok (.dup, 1) := by decide +kernel
theorem dX8_isBill_84 : decode cX8_isBill 84 = .ok (.getfield 184, 3) := by decide +kernel
theorem dX8_isBill_87 : decode cX8_isBill 87 = .ok (.iconst 1, 1) := by decide +kernel
theorem dX8_isBill_88 : decode cX8_isBill 88 = .ok (.iadd, 1) := by decide +kernel
theorem dX8_isBill_89 : decode cX8_isBill 89 = .ok (.putfield 184, 3) := by decide +kernel
theorem dX8_isBill_92 : decode cX8_isBill 92 = .ok (.iconst 1, 1) := by decide +kernel
theorem dX8_isBill_93 : decode cX8_isBill 93 = .ok (.ireturn, 1) := by decide +kernel
theorem dX8_book_0 : decode cX8_book 0 = .ok (.iconst 0, 1) := by decide +kernel
theorem dX8_book_1 : decode cX8_book 1 = .ok (.istore_n 1, 1) := by decide +kernel
theorem dX8_book_2 : decode cX8_book 2 = .ok (.iload_n 1, 1) := by decide +kernel
theorem dX8_book_3 : decode cX8_book 3 = .ok (.bipush 12, 2) := by decide +kernel
theorem dX8_book_5 : decode cX8_book 5 = .ok (.if_icmp .ge 32, 3) := by decide +kernel
theorem dX8_book_8 : decode cX8_book 8 = .ok (.aload_n 0, 1) := by decide +kernel
theorem dX8_book_9 : decode cX8_book 9 = .ok (.getfield 49, 3) := by decide +kernel
theorem dX8_book_12 : decode cX8_book 12 = .ok (.iload_n 1, 1) := by decide +kernel
theorem dX8_book_13 : decode cX8_book 13 = .ok (.iconst 0, 1) := by decide +kernel
theorem dX8_book_14 : decode cX8_book 14 = .ok (.iastore, 1) := by decide +kernel
theorem dX8_book_15 : decode cX8_book 15 = .ok (.aload_n 0, 1) := by decide +kernel
theorem dX8_book_16 : decode cX8_book 16 = .ok (.getfield 52, 3) := by decide +kernel
theorem dX8_book_19 : decode cX8_book 19 = .ok (.iload_n 1, 1) := by decide +kernel
theorem dX8_book_20 : decode cX8_book 20 = .ok (.sipush 999, 3) := by decide +kernel
theorem dX8_book_23 : decode cX8_book 23 = .ok (.iastore, 1) := by decide +kernel
theorem dX8_book_24 : decode cX8_book 24 = .ok (.aload_n 0, 1) := by decide +kernel
theorem dX8_book_25 : decode cX8_book 25 = .ok (.getfield 55, 3) := by decide +kernel
theorem dX8_book_28 : decode cX8_book 28 = .ok (.iload_n 1, 1) := by decide +kernel
theorem dX8_book_29 : decode cX8_book 29 = .ok (.iconst 0, 1) := by decide +kernel
theorem dX8_book_30 : decode cX8_book 30 = .ok (.iastore, 1) := by decide +kernel
theorem dX8_book_31 : decode cX8_book 31 = .ok (.iinc 1 1, 3) := by decide +kernel
theorem dX8_book_34 : decode cX8_book 34 = .ok (.goto (-32), 3) := by decide +kernel
theorem dX8_book_37 : decode cX8_book 37 = .ok (.aload_n 0, 1) := by decide +kernel
theorem dX8_book_38 : decode cX8_book 38 = .ok (.iconst 0, 1) := by decide +kernel
theorem dX8_book_39 : decode cX8_book 39 = .ok (.putfield 184, 3) := by decide +kernel
theorem dX8_book_42 : decode cX8_book 42 = .ok (.aload_n 0, 1) := by decide +kernel
theorem dX8_book_43 : decode cX8_book 43 = .ok (.iconst 0, 1) := by decide +kernel
theorem dX8_book_44 : decode cX8_book 44 = .ok (.putfield 126, 3) := by decide +kernel
theorem dX8_book_47 : decode cX8_book 47 = .ok (.iconst 0, 1) := by decide +kernel
theorem dX8_book_48 : decode cX8_book 48 = .ok (.istore_n 1, 1) := by decide +kernel
theorem dX8_book_49 : decode cX8_book 49 = .ok (.aload_n 0, 1) := by decide +kernel
theorem dX8_book_50 : decode cX8_book 50 = .ok (.invokevirtual 157, 3) := by decide +kernel
theorem dX8_book_53 : decode cX8_book 53 = .ok (.aload_n 0, 1) := by decide +kernel
theorem dX8_book_54 : decode cX8_book 54 = .ok (.getfield 136, 3) := by decide +kernel
theorem dX8_book_57 : decode cX8_book 57 = .ok (.ifCond .eq 79, 3) := by decide +kernel
theorem dX8_book_60 : decode cX8_book 60 = .ok (.aload_n 0, 1) := by decide +kernel
theorem dX8_book_61 : decode cX8_book 61 = .ok (.getfield 136, 3) := by decide +kernel
theorem dX8_book_64 : decode cX8_book 64 = .ok (.bipush 6, 2) := by decide +kernel
theorem dX8_book_66 : decode cX8_book 66 = .ok (.if_icmp .ne 10, 3) := by decide +kernel
theorem dX8_book_69 : decode cX8_book 69 = .ok (.aload_n 0, 1) := by decide +kernel
theorem dX8_book_70 : decode cX8_book 70 = .ok (.invokevirtual 187, 3) := by decide +kernel
theorem dX8_book_73 : decode cX8_book 73 = .ok (.goto 40, 3) := by decide +kernel
theorem dX8_book_76 : decode cX8_book 76 = .ok (.aload_n 0, 1) := by decide +kernel
theorem dX8_book_77 : decode cX8_book 77 = .ok (.getfield 136, 3) := by decide +kernel
theorem dX8_book_80 : decode cX8_book 80 = .ok (.bipush 7, 2) := by decide +kernel
theorem dX8_book_82 : decode cX8_book 82 = .ok (.if_icmp .ne 10, 3) := by decide +kernel
theorem dX8_book_85 : decode cX8_book 85 = .ok (.aload_n 0, 1) := by decide +kernel
theorem dX8_book_86 : decode cX8_book 86 = .ok (.invokevirtual 190, 3) := by decide +kernel
theorem dX8_book_89 : decode cX8_book 89 = .ok (.goto 24, 3) := by decide +kernel
theorem dX8_book_92 : decode cX8_book 92 = .ok (.aload_n 0, 1) := by decide +kernel
theorem dX8_book_93 : decode cX8_book 93 = .ok (.getfield 136, 3) := by decide +kernel
theorem dX8_book_96 : decode cX8_book 96 = .ok (.bipush 8, 2) := by decide +kernel
theorem dX8_book_98 : decode cX8_book 98 = .ok (.if_icmp .ne 14, 3) := by decide +kernel
theorem dX8_book_101 : decode cX8_book 101 = .ok (.aload_n 0, 1) := by decide +kernel
theorem dX8_book_102 : decode cX8_book 102 = .ok (.invokevirtual 193, 3) := by decide +kernel
theorem dX8_book_105 : decode cX8_book 105 = .ok (.ifCond .eq 7, 3) := by decide +kernel
theorem dX8_book_108 : decode cX8_book 108 = .ok (.iconst 1, 1) := by decide +kernel
theorem dX8_book_109 : decode cX8_book 109 = .ok (.goto 4, 3) := by decide +kernel
theorem dX8_book_112 : decode cX8_book 112 = .ok (.iconst 0, 1) := by decide +kernel
theorem dX8_book_113 : decode cX8_book 113 = .ok (.istore_n 2, 1) := by decide +kernel
theorem dX8_book_114 : decode cX8_book 114 = .ok (.iload_n 2, 1) := by decide +kernel
theorem dX8_book_115 : decode cX8_book 115 = .ok (.ifCond .ne 11, 3) := by decide +kernel
theorem dX8_book_118 : decode cX8_book 118 = .ok (.bipush (-10), 2) := by decide +kernel
theorem dX8_book_120 : decode cX8_book 120 = .ok (.aload_n 0, 1) := by decide +kernel
theorem dX8_book_121 : decode cX8_book 121 = .ok (.getfield 133, 3) := by decide +kernel
theorem dX8_book_124 : decode cX8_book 124 = .ok (.isub, 1) := by decide +kernel
theorem dX8_book_125 : decode cX8_book 125 = .ok (.ireturn, 1) := by decide +kernel
theorem dX8_book_126 : decode cX8_book 126 = .ok (.iinc 1 1, 3) := by decide +kernel
theorem dX8_book_129 : decode cX8_book 129 = .ok (.aload_n 0, 1) := by decide +kernel
theorem dX8_book_130 : decode cX8_book 130 = .ok (.invokevirtual 157, 3) := by decide +kernel
theorem dX8_book_133 : decode cX8_book 133 = .ok (.goto (-80), 3) := by decide +kernel
theorem dX8_book_136 : decode cX8_book 136 = .ok (.iconst 0, 1) := by decide +kernel
theorem dX8_book_137 : decode cX8_book 137 = .ok (.istore_n 2, 1) := by decide +kernel
theorem dX8_book_138 : decode cX8_book 138 = .ok (.iload_n 2, 1) := by decide +kernel
theorem dX8_book_139 : decode cX8_book 139 = .ok (.bipush 12, 2) := by decide +kernel
theorem dX8_book_141 : decode cX8_book 141 = .ok (.if_icmp .ge 45, 3) := by decide +kernel
theorem dX8_book_144 : decode cX8_book 144 = .ok (.aload_n 0, 1) := by decide +kernel
theorem dX8_book_145 : decode cX8_book 145 = .ok (.getfield 34, 3) := by decide +kernel
theorem dX8_book_148 : decode cX8_book 148 = .ok (.iload_n 2, 1) := by decide +kernel
theorem dX8_book_149 : decode cX8_book 149 = .ok (.aload_n 0, 1) := by decide +kernel
theorem dX8_book_150 : decode cX8_book 150 = .ok (.getfield 49, 3) := by decide +kernel
theorem dX8_book_153 : decode cX8_book 153 = .ok (.iload_n 2, 1) := by decide +kernel
theorem dX8_book_154 : decode cX8_book 154 = .ok (.iaload, 1) := by decide +kernel
theorem dX8_book_155 : decode cX8_book 155 = .ok (.iastore, 1) := by decide +kernel
theorem dX8_book_156 : decode cX8_book 156 = .ok (.aload_n 0, 1) := by decide +kernel
theorem dX8_book_157 : decode cX8_book 157 = .ok (.getfield 37, 3) := by decide +kernel
theorem dX8_book_160 : decode cX8_book 160 = .ok (.iload_n 2, 1) := by decide +kernel
theorem dX8_book_161 : decode cX8_book 161 = .ok (.aload_n 0, 1) := by decide +kernel
theorem dX8_book_162 : decode cX8_book 162 = .ok (.getfield 52, 3) := by decide +kernel
theorem dX8_book_165 : decode cX8_book 165 = .ok (.iload_n 2, 1) := by decide +kernel
theorem dX8_book_166 : decode cX8_book 166 = .ok (.iaload, 1) := by decide +kernel
theorem dX8_book_167 : decode cX8_book 167 = .ok (.iastore, 1) := by decide +kernel
theorem dX8_book_168 : decode cX8_book 168 = .ok (.aload_n 0, 1) := by decide +kernel
theorem dX8_book_169 : decode cX8_book 169 = .ok (.getfield 40, 3) := by decide +kernel
theorem dX8_book_172 : decode cX8_book 172 = .ok (.iload_n 2, 1) := by decide +kernel
theorem dX8_book_173 : decode cX8_book 173 = .ok (.aload_n 0, 1) := by decide +kernel
theorem dX8_book_174 : decode cX8_book 174 = .ok (.getfield 55, 3) := by decide +kernel
theorem dX8_book_177 : decode cX8_book 177 = .ok (.iload_n 2, 1) := by decide +kernel
theorem dX8_book_178 : decode cX8_book 178 = .ok (.iaload, 1) := by decide +kernel
theorem dX8_book_179 : decode cX8_book 179 = .ok (.iastore, 1) := by decide +kernel
theorem dX8_book_180 : decode cX8_book 180 = .ok (.iinc 2 1, 3) := by decide +kernel
theorem dX8_book_183 : decode cX8_book 183 = .ok (.goto (-45), 3) := by decide +kernel
theorem dX8_book_186 : decode cX8_book 186 = .ok (.aload_n 0, 1) := by decide +kernel
theorem dX8_book_187 : decode cX8_book 187 = .ok (.aload_n 0, 1) := by decide +kernel
theorem dX8_book_188 : decode cX8_book 188 = .ok (.getfield 184, 3) := by decide +kernel
theorem dX8_book_191 : decode cX8_book 191 = .ok (.putfield 196, 3) := by decide +kernel
theorem dX8_book_194 : decode cX8_book 194 = .ok (.iconst 0, 1) := by decide +kernel
theorem dX8_book_195 : decode cX8_book 195 = .ok (.istore_n 2, 1) := by decide +kernel
theorem dX8_book_196 : decode cX8_book 196 = .ok (.iload_n 2, 1) := by decide +kernel
theorem dX8_book_197 : decode cX8_book 197 = .ok (.aload_n 0, 1) := by decide +kernel
theorem dX8_book_198 : decode cX8_book 198 = .ok (.getfield 196, 3) := by decide +kernel
theorem dX8_book_201 : decode cX8_book 201 = .ok (.if_icmp .ge 33, 3) := by decide +kernel
theorem dX8_book_204 : decode cX8_book 204 = .ok (.aload_n 0, 1) := by decide +kernel
theorem dX8_book_205 : decode cX8_book 205 = .ok (.getfield 43, 3) := by decide +kernel
theorem dX8_book_208 : decode cX8_book 208 = .ok (.iload_n 2, 1) := by decide +kernel
theorem dX8_book_209 : decode cX8_book 209 = .ok (.aload_n 0, 1) := by decide +kernel
theorem dX8_book_210 : decode cX8_book 210 = .ok (.getfield 58, 3) := by decide +kernel
theorem dX8_book_213 : decode cX8_book 213 = .ok (.iload_n 2, 1) := by decide +kernel
theorem dX8_book_214 : decode cX8_book 214 = .ok (.iaload, 1) := by decide +kernel
theorem dX8_book_215 : decode cX8_book 215 = .ok (.iastore, 1) := by decide +kernel
theorem dX8_book_216 : decode cX8_book 216 = .ok (.aload_n 0, 1) := by decide +kernel
theorem dX8_book_217 : decode cX8_book 217 = .ok (.getfield 46, 3) := by decide +kernel
theorem dX8_book_220 : decode cX8_book 220 = .ok (.iload_n 2, 1) := by decide +kernel
theorem dX8_book_221 : decode cX8_book 221 = .ok (.aload_n 0, 1) := by decide +kernel
theorem dX8_book_222 : decode cX8_book 222 = .ok (.getfield 61, 3) := by decide +kernel
theorem dX8_book_225 : decode cX8_book 225 = .ok (.iload_n 2, 1) := by decide +kernel
theorem dX8_book_226 : decode cX8_book 226 = .ok (.iaload, 1) := by decide +kernel
theorem dX8_book_227 : decode cX8_book 227 = .ok (.iastore, 1) := by decide +kernel
theorem dX8_book_228 : decode cX8_book 228 = .ok (.iinc 2 1, 3) := by decide +kernel
theorem dX8_book_231 : decode cX8_book 231 = .ok (.goto (-35), 3) := by decide +kernel
theorem dX8_book_234 : decode cX8_book 234 = .ok (.aload_n 0, 1) := by decide +kernel
theorem dX8_book_235 : decode cX8_book 235 = .ok (.iconst 0, 1) := by decide +kernel
theorem dX8_book_236 : decode cX8_book 236 = .ok (.putfield 120, 3) := by decide +kernel
theorem dX8_book_239 : decode cX8_book 239 = .ok (.aload_n 0, 1) := by decide +kernel
theorem dX8_book_240 : decode cX8_book 240 = .ok (.iconst 0, 1) := by decide +kernel
theorem dX8_book_241 : decode cX8_book 241 = .ok (.putfield 180, 3) := by decide +kernel
theorem dX8_book_244 : decode cX8_book 244 = .ok (.iload_n 1, 1) := by decide +kernel
theorem dX8_book_245 : decode cX8_book 245 = .ok (.ireturn, 1) := by decide +kernel
theorem dX8_isChipAt_0 : decode cX8_isChipAt 0 = .ok (.iload_n 1, 1) := by decide +kernel
theorem dX8_isChipAt_1 : decode cX8_isChipAt 1 = .ok (.iconst 0, 1) := by decide +kernel
theorem dX8_isChipAt_2 : decode cX8_isChipAt 2 = .ok (.aload_n 0, 1) := by decide +kernel
theorem dX8_isChipAt_3 : decode cX8_isChipAt 3 = .ok (.getfield 173, 3) := by decide +kernel
theorem dX8_isChipAt_6 : decode cX8_isChipAt 6 = .ok (.iconst 1, 1) := by decide +kernel
theorem dX8_isChipAt_7 : decode cX8_isChipAt 7 = .ok (.isub, 1) := by decide +kernel
theorem dX8_isChipAt_8 : decode cX8_isChipAt 8 = .ok (.invokestatic 116, 3) := by decide +kernel
theorem dX8_isChipAt_11 : decode cX8_isChipAt 11 = .ok (.ireturn, 1) := by decide +kernel
theorem dX8_drop_0 : decode cX8_drop 0 = .ok (.aload_n 0, 1) := by decide +kernel
theorem dX8_drop_1 : decode cX8_drop 1 = .ok (.iload_n 1, 1) := by decide +kernel
theorem dX8_drop_2 : decode cX8_drop 2 = .ok (.invokevirtual 199, 3) := by decide +kernel
theorem dX8_drop_5 : decode cX8_drop 5 = .ok (.ifCond .ne 5, 3) := by decide +kernel
theorem dX8_drop_8 : decode cX8_drop 8 = .ok (.iconst (-1), 1) := by decide +kernel
theorem dX8_drop_9 : decode cX8_drop 9 = .ok (.ireturn, 1) := by decide +kernel
theorem dX8_drop_10 : decode cX8_drop 10 = .ok (.aload_n 0, 1) := by decide +kernel
theorem dX8_drop_11 : decode cX8_drop 11 = .ok (.dup, 1) := by decide +kernel
theorem dX8_drop_12 : decode cX8_drop 12 = .ok (.getfield 173, 3) := by decide +kernel
theorem dX8_drop_15 : decode cX8_drop 15 = .ok (.iconst 1, 1) := by decide +kernel
theorem dX8_drop_16 : decode cX8_drop 16 = .ok (.isub, 1) := by decide +kernel
theorem dX8_drop_17 : decode cX8_drop 17 = .ok (.putfield 173, 3) := by decide +kernel
theorem dX8_drop_20 : decode cX8_drop 20 = .ok (.iload_n 1, 1) := by decide +kernel
theorem dX8_drop_21 : decode cX8_drop 21 = .ok (.istore_n 2, 1) := by decide +kernel
theorem dX8_drop_22 : decode cX8_drop 22 = .ok (.iload_n 2, 1) := by decide +kernel
theorem dX8_drop_23 : decode cX8_drop 23 = .ok (.aload_n 0, 1) := by decide +kernel
theorem dX8_drop_24 : decode cX8_drop 24 = .ok (.getfield 173, 3) := by decide +kernel
theorem dX8_drop_27 : decode cX8_drop 27 = .ok (.if_icmp .ge 113, 3) := by decide +kernel
theorem dX8_drop_30 : decode cX8_drop 30 = .ok (.aload_n 0, 1) := by decide +kernel
theorem dX8_drop_31 : decode cX8_drop 31 = .ok (.getfield 13, 3) := by decide +kernel
theorem dX8_drop_34 : decode cX8_drop 34 = .ok (.iload_n 2, 1) := by decide +kernel
theorem dX8_drop_35 : decode cX8_drop 35 = .ok (.aload_n 0, 1) := by decide +kernel
theorem dX8_drop_36 : decode cX8_drop 36 = .ok (.getfield 13, 3) := by decide +kernel
theorem dX8_drop_39 : decode cX8_drop 39 = .ok (.iload_n 2, 1) := by decide +kernel
theorem dX8_drop_40 : decode cX8_drop 40 = .ok (.iconst 1, 1) := by decide +kernel
theorem dX8_drop_41 : decode cX8_drop 41 = .ok (.iadd, 1) := by decide +kernel
theorem dX8_drop_42 : decode cX8_drop 42 = .ok (.iaload, 1) := by decide +kernel
theorem dX8_drop_43 : decode cX8_drop 43 = .ok (.iastore, 1) := by decide +kernel
theorem dX8_drop_44 : decode cX8_drop 44 = .ok (.aload_n 0, 1) := by decide +kernel
theorem dX8_drop_45 : decode cX8_drop 45 = .ok (.getfield 16, 3) := by decide +kernel
theorem dX8_drop_48 : decode cX8_drop 48 = .ok (.iload_n 2, 1) := by decide +kernel
theorem dX8_drop_49 : decode cX8_drop 49 = .ok (.aload_n 0, 1) := by decide +kernel
theorem dX8_drop_50 : decode cX8_drop 50 = .ok (.getfield 16, 3) := by decide +kernel
theorem dX8_drop_53 : decode cX8_drop 53 = .ok (.iload_n 2, 1) := by decide +kernel
theorem dX8_drop_54 : decode cX8_drop 54 = .ok (.iconst 1, 1) := by decide +kernel
theorem dX8_drop_55 : decode cX8_drop 55 = .ok (.iadd, 1) := by decide +kernel
theorem dX8_drop_56 : decode cX8_drop 56 = .ok (.iaload, 1) := by decide +kernel
theorem dX8_drop_57 : decode cX8_drop 57 = .ok (.iastore, 1) := by decide +kernel
theorem dX8_drop_58 : decode cX8_drop 58 = .ok (.aload_n 0, 1) := by decide +kernel
theorem dX8_drop_59 : decode cX8_drop 59 = .ok (.getfield 19, 3) := by decide +kernel
theorem dX8_drop_62 : decode cX8_drop 62 = .ok (.iload_n 2, 1) := by decide +kernel
theorem dX8_drop_63 : decode cX8_drop 63 = .ok (.aload_n 0, 1) := by decide +kernel
theorem dX8_drop_64 : decode cX8_drop 64 = .ok (.getfield 19, 3) := by decide +kernel
theorem dX8_drop_67 : decode cX8_drop 67 = .ok (.iload_n 2, 1) := by decide +kernel
theorem dX8_drop_68 : decode cX8_drop 68 = .ok (.iconst 1, 1) := by decide +kernel
theorem dX8_drop_69 : decode cX8_drop 69 = .ok (.iadd, 1) := by decide +kernel
theorem dX8_drop_70 : decode cX8_drop 70 = .ok (.iaload, 1) := by decide +kernel
theorem dX8_drop_71 : decode cX8_drop 71 = .ok (.iastore, 1) := by decide +kernel
theorem dX8_drop_72 : decode cX8_drop 72 = .ok (.iconst 0, 1) := by decide +kernel
theorem dX8_drop_73 : decode cX8_drop 73 = .ok (.istore_n 3, 1) := by decide +kernel
theorem dX8_drop_74 : decode cX8_drop 74 = .ok (.iload_n 3, 1) := by decide +kernel
theorem dX8_drop_75 : decode cX8_drop 75 = .ok (.bipush 10, 2) := by decide +kernel
theorem dX8_drop_77 : decode cX8_drop 77 = .ok (.if_icmp .ge 57, 3) := by decide +kernel
theorem dX8_drop_80 : decode cX8_drop 80 = .ok (.aload_n 0, 1) := by decide +kernel
theorem dX8_drop_81 : decode cX8_drop 81 = .ok (.getfield 22, 3) := by decide +kernel
theorem dX8_drop_84 : decode cX8_drop 84 = .ok (.bipush 10, 2) := by decide +kernel
theorem dX8_drop_86 : decode cX8_drop 86 = .ok (.iload_n 2, 1) := by decide +kernel
theorem dX8_drop_87 : decode cX8_drop 87 = .ok (.imul, 1) := by decide +kernel
theorem dX8_drop_88 : decode cX8_drop 88 = .ok (.iload_n 3, 1) := by decide +kernel
theorem dX8_drop_89 : decode cX8_drop 89 = .ok (.iadd, 1) := by decide +kernel
theorem dX8_drop_90 : decode cX8_drop 90 = .ok (.aload_n 0, 1) := by decide +kernel
theorem dX8_drop_91 : decode cX8_drop 91 = .ok (.getfield 22, 3) := by decide +kernel
theorem dX8_drop_94 : decode cX8_drop 94 = .ok (.bipush 10, 2) := by decide +kernel
theorem dX8_drop_96 : decode cX8_drop 96 = .ok (.iload_n 2, 1) := by decide +kernel
theorem dX8_drop_97 : decode cX8_drop 97 = .ok (.iconst 1, 1) := by decide +kernel
theorem dX8_drop_98 : decode cX8_drop 98 = .ok (.iadd, 1) := by decide +kernel
theorem dX8_drop_99 : decode cX8_drop 99 = .ok (.imul, 1) := by decide +kernel
theorem dX8_drop_100 : decode cX8_drop 100 = .ok (.iload_n 3, 1) := by decide +kernel
theorem dX8_drop_101 : decode cX8_drop 101 = .ok (.iadd, 1) := by decide +kernel
theorem dX8_drop_102 : decode cX8_drop 102 = .ok (.iaload, 1) := by decide +kernel
theorem dX8_drop_103 : decode cX8_drop 103 = .ok (.iastore, 1) := by decide +kernel
theorem dX8_drop_104 : decode cX8_drop 104 = .ok (.aload_n 0, 1) := by decide +kernel
theorem dX8_drop_105 : decode cX8_drop 105 = .ok (.getfield 25, 3) := by decide +kernel
theorem dX8_drop_108 : decode cX8_drop 108 = .ok (.bipush 10, 2) := by decide +kernel
theorem dX8_drop_110 : decode cX8_drop 110 = .ok (.iload_n 2, 1) := by decide +kernel
theorem dX8_drop_111 : decode cX8_drop 111 = .ok (.imul, 1) := by decide +kernel
theorem dX8_drop_112 : decode cX8_drop 112 = .ok (.iload_n 3, 1) := by decide +kernel
theorem dX8_drop_113 : decode cX8_drop 113 = .ok (.iadd, 1) := by decide +kernel
theorem dX8_drop_114 : decode cX8_drop 114 = .ok (.aload_n 0, 1) := by decide +kernel
theorem dX8_drop_115 : decode cX8_drop 115 = .ok (.getfield 25, 3) := by decide +kernel
theorem dX8_drop_118 : decode cX8_drop 118 = .ok (.bipush 10, 2) := by decide +kernel
theorem dX8_drop_120 : decode cX8_drop 120 = .ok (.iload_n 2, 1) := by decide +kernel
theorem dX8_drop_121 : decode cX8_drop 121 = .ok (.iconst 1, 1) := by decide +kernel
theorem dX8_drop_122 : decode cX8_drop 122 = .ok (.iadd, 1) := by decide +kernel
theorem dX8_drop_123 : decode cX8_drop 123 = .ok (.imul, 1) := by decide +kernel
theorem dX8_drop_124 : decode cX8_drop 124 = .ok (.iload_n 3, 1) := by decide +kernel
theorem dX8_drop_125 : decode cX8_drop 125 = .ok (.iadd, 1) := by decide +kernel
theorem dX8_drop_126 : decode cX8_drop 126 = .ok (.iaload, 1) := by decide +kernel
theorem dX8_drop_127 : decode cX8_drop 127 = .ok (.iastore, 1) := by decide +kernel
theorem dX8_drop_128 : decode cX8_drop 128 = .ok (.iinc 3 1, 3) := by decide +kernel
theorem dX8_drop_131 : decode cX8_drop 131 = .ok (.goto (-57), 3) := by decide +kernel
theorem dX8_drop_134 : decode cX8_drop 134 = .ok (.iinc 2 1, 3) := by decide +kernel
theorem dX8_drop_137 : decode cX8_drop 137 = .ok (.goto (-115), 3) := by decide +kernel
theorem dX8_drop_140 : decode cX8_drop 140 = .ok (.aload_n 0, 1) := by decide +kernel
theorem dX8_drop_141 : decode cX8_drop 141 = .ok (.iconst 0, 1) := by decide +kernel
theorem dX8_drop_142 : decode cX8_drop 142 = .ok (.putfield 180, 3) := by decide +kernel
theorem dX8_drop_145 : decode cX8_drop 145 = .ok (.aload_n 0, 1) := by decide +kernel
theorem dX8_drop_146 : decode cX8_drop 146 = .ok (.getfield 173, 3) := by decide +kernel
theorem dX8_drop_149 : decode cX8_drop 149 = .ok (.ireturn, 1) := by decide +kernel
theorem dX8_about_0 : decode cX8_about 0 = .ok (.aload_n 0, 1) := by decide +kernel
theorem dX8_about_1 : decode cX8_about 1 = .ok (.iload_n 1, 1) := by decide +kernel
theorem dX8_about_2 : decode cX8_about 2 = .ok (.invokevirtual 199, 3) := by decide +kernel
theorem dX8_about_5 : decode cX8_about 5 = .ok (.ifCond .eq 12, 3) := by decide +kernel
theorem dX8_about_8 : decode cX8_about 8 = .ok (.iload_n 2, 1) := by decide +kernel
theorem dX8_about_9 : decode cX8_about 9 = .ok (.iconst 0, 1) := by decide +kernel
theorem dX8_about_10 : decode cX8_about 10 = .ok (.iconst 2, 1) := by decide +kernel
theorem dX8_about_11 : decode cX8_about 11 = .ok (.invokestatic 116, 3) := by decide +kernel
theorem dX8_about_14 : decode cX8_about 14 = .ok (.ifCond .ne 5, 3) := by decide +kernel
theorem dX8_about_17 : decode cX8_about 17 = .ok (.iconst (-1), 1) := by decide +kernel
theorem dX8_about_18 : decode cX8_about 18 = .ok (.ireturn, 1) := by decide +kernel
theorem dX8_about_19 : decode cX8_about 19 = .ok (.iload_n 2, 1) := by decide +kernel
theorem dX8_about_20 : decode cX8_about 20 = .ok (.ifCond .ne 12, 3) := by decide +kernel
theorem dX8_about_23 : decode cX8_about 23 = .ok (.aload_n 0, 1) := by decide +kernel
theorem dX8_about_24 : decode cX8_about 24 = .ok (.getfield 13, 3) := by decide +kernel
theorem dX8_about_27 : decode cX8_about 27 = .ok (.iload_n 1, 1) := by decide +kernel
theorem dX8_about_28 : decode cX8_about 28 = .ok (.iaload, 1) := by decide +kernel
theorem dX8_about_29 : decode cX8_about 29 = .ok (.goto 23, 3) := by decide +kernel
theorem dX8_about_32 : decode cX8_about 32 = .ok (.iload_n 2, 1) := by decide +kernel
theorem dX8_about_33 : decode cX8_about 33 = .ok (.iconst 1, 1) := by decide +kernel
theorem dX8_about_34 : decode cX8_about 34 = .ok (.if_icmp .ne 12, 3) := by decide +kernel
theorem dX8_about_37 : decode cX8_about 37 = .ok (.aload_n 0, 1) := by decide +kernel
theorem dX8_about_38 : decode cX8_about 38 = .ok (.getfield 16, 3) := by decide +kernel
theorem dX8_about_41 : decode cX8_about 41 = .ok (.iload_n 1, 1) := by decide +kernel
theorem dX8_about_42 : decode cX8_about 42 = .ok (.iaload, 1) := by decide +kernel
theorem dX8_about_43 : decode cX8_about 43 = .ok (.goto 9, 3) := by decide +kernel
theorem dX8_about_46 : decode cX8_about 46 = .ok (.aload_n 0, 1) := by decide +kernel
theorem dX8_about_47 : decode cX8_about 47 = .ok (.getfield 19, 3) := by decide +kernel
theorem dX8_about_50 : decode cX8_about 50 = .ok (.iload_n 1, 1) := by decide +kernel
theorem dX8_about_51 : decode cX8_about 51 = .ok (.iaload, 1) := by decide +kernel
theorem dX8_about_52 : decode cX8_about 52 = .ok (.ireturn, 1) := by decide +kernel
theorem dX8_isCoat_0 : decode cX8_isCoat 0 = .ok (.aload_n 0, 1) := by decide +kernel
theorem dX8_isCoat_1 : decode cX8_isCoat 1 = .ok (.iload_n 1, 1) := by decide +kernel
theorem dX8_isCoat_2 : decode cX8_isCoat 2 = .ok (.invokevirtual 199, 3) := by decide +kernel
theorem dX8_isCoat_5 : decode cX8_isCoat 5 = .ok (.ifCond .eq 23, 3) := by decide +kernel
theorem dX8_isCoat_8 : decode cX8_isCoat 8 = .ok (.iload_n 2, 1) := by decide +kernel
theorem dX8_isCoat_9 : decode cX8_isCoat 9 = .ok (.iconst 0, 1) := by decide +kernel
theorem dX8_isCoat_10 : decode cX8_isCoat 10 = .ok (.aload_n 0, 1) := by decide +kernel
theorem dX8_isCoat_11 : decode cX8_isCoat 11 = .ok (.getfield 19, 3) := by decide +kernel
theorem dX8_isCoat_14 : decode cX8_isCoat 14 = .ok (.iload_n 1, 1) := by decide +kernel
theorem dX8_isCoat_15 : decode cX8_isCoat 15 = .ok (.iaload, 1) := by decide +kernel
theorem dX8_isCoat_16 : decode cX8_isCoat 16 = .ok (.iconst 1, 1) := by decide +kernel
theorem dX8_isCoat_17 : decode cX8_isCoat 17 = .ok (.isub, 1) := by decide +kernel
theorem dX8_isCoat_18 : decode cX8_isCoat 18 = .ok (.invokestatic 116, 3) := by decide +kernel
theorem dX8_isCoat_21 : decode cX8_isCoat 21 = .ok (.ifCond .eq 7, 3) := by decide +kernel
theorem dX8_isCoat_24 : decode cX8_isCoat 24 = .ok (.iconst 1, 1) := by decide +kernel
theorem dX8_isCoat_25 : decode cX8_isCoat 25 = .ok (.goto 4, 3) := by decide +kernel
theorem dX8_isCoat_28 : decode cX8_isCoat 28 = .ok (.iconst 0, 1) := by decide +kernel
theorem dX8_isCoat_29 : decode cX8_isCoat 29 = .ok (.ireturn, 1) := by decide +kernel
theorem dX8_coat_0 : decode cX8_coat 0 = .ok (.aload_n 0, 1) := by decide +kernel
theorem dX8_coat_1 : decode cX8_coat 1 = .ok (.iload_n 1, 1) := by decide +kernel
theorem dX8_coat_2 : decode cX8_coat 2 = .ok (.iload_n 2, 1) := by decide +kernel
theorem dX8_coat_3 : decode cX8_coat 3 = .ok (.invokevirtual 202, 3) := by decide +kernel
theorem dX8_coat_6 : decode cX8_coat 6 = .ok (.ifCond .eq 12, 3) := by decide +kernel
theorem dX8_coat_9 : decode cX8_coat 9 = .ok (.iload_n 3, 1) := by decide +kernel
theorem dX8_coat_10 : decode cX8_coat 10 = .ok (.iconst 0, 1) := by decide +kernel
theorem dX8_coat_11 : decode cX8_coat 11 = .ok (.iconst 2, 1) := by decide +kernel
theorem dX8_coat_12 : decode cX8_coat 12 = .ok (.invokestatic 116, 3) := by decide +kernel
theorem dX8_coat_15 : decode cX8_coat 15 = .ok (.ifCond .ne 5, 3) := by decide +kernel
theorem dX8_coat_18 : decode cX8_coat 18 = .ok (.iconst (-1), 1) := by decide +kernel
theorem dX8_coat_19 : decode cX8_coat 19 = .ok (.ireturn, 1) := by decide +kernel
theorem dX8_coat_20 : decode cX8_coat 20 = .ok (.iload_n 3, 1) := by decide +kernel
theorem dX8_coat_21 : decode cX8_coat 21 = .ok (.iconst 2, 1) := by decide +kernel
theorem dX8_coat_22 : decode cX8_coat 22 = .ok (.if_icmp .ne 19, 3) := by decide +kernel
theorem dX8_coat_25 : decode cX8_coat 25 = .ok (.aload_n 0, 1) := by decide +kernel
theorem dX8_coat_26 : decode cX8_coat 26 = .ok (.invokevirtual 205, 3) := by decide +kernel
theorem dX8_coat_29 : decode cX8_coat 29 = .ok (.aload_n 0, 1) := by decide +kernel
theorem dX8_coat_30 : decode cX8_coat 30 = .ok (.getfield 104, 3) := by decide +kernel
theorem dX8_coat_33 : decode cX8_coat 33 = .ok (.bipush 10, 2) := by decide +kernel
theorem dX8_coat_35 : decode cX8_coat 35 = .ok (.iload_n 1, 1) := by decide +kernel
theorem dX8_coat_36 : decode cX8_coat 36 = .ok (.imul, 1) := by decide +kernel
theorem dX8_coat_37 : decode cX8_coat 37 = .ok (.iload_n 2, 1) := by decide +kernel
theorem dX8_coat_38 : decode cX8_coat 38 = .ok (.iadd, 1) := by decide +kernel
theorem dX8_coat_39 : decode cX8_coat 39 = .ok (.iaload, 1) := by decide +kernel
theorem dX8_coat_40 : decode cX8_coat 40 = .ok (.ireturn, 1) := by decide +kernel
theorem dX8_coat_41 : decode cX8_coat 41 = .ok (.iload_n 3, 1) := by decide +kernel
theorem dX8_coat_42 : decode cX8_coat 42 = .ok (.ifCond .ne 17, 3) := by decide +kernel
theorem dX8_coat_45 : decode cX8_coat 45 = .ok (.aload_n 0, 1) := by decide +kernel
theorem dX8_coat_46 : decode cX8_coat 46 = .ok (.getfield 22, 3) := by decide +kernel
theorem dX8_coat_49 : decode cX8_coat 49 = .ok (.bipush 10, 2) := by decide +kernel
theorem dX8_coat_51 : decode cX8_coat 51 = .ok (.iload_n 1, 1) := by decide +kernel
theorem dX8_coat_52 : decode cX8_coat 52 = .ok (.imul, 1) := by decide +kernel
theorem dX8_coat_53 : decode cX8_coat 53 = .ok (.iload_n 2, 1) := by decide +kernel
theorem dX8_coat_54 : decode cX8_coat 54 = .ok (.iadd, 1) := by decide +kernel
theorem dX8_coat_55 : decode cX8_coat 55 = .ok (.iaload, 1) := by decide +kernel
theorem dX8_coat_56 : decode cX8_coat 56 = .ok (.goto 14, 3) := by decide +kernel
theorem dX8_coat_59 : decode cX8_coat 59 = .ok (.aload_n 0, 1) := by decide +kernel
theorem dX8_coat_60 : decode cX8_coat 60 = .ok (.getfield 25, 3) := by decide +kernel
theorem dX8_coat_63 : decode cX8_coat 63 = .ok (.bipush 10, 2) := by decide +kernel
theorem dX8_coat_65 : decode cX8_coat 65 = .ok (.iload_n 1, 1) := by decide +kernel
theorem dX8_coat_66 : decode cX8_coat 66 = .ok (.imul, 1) := by decide +kernel
theorem dX8_coat_67 : decode cX8_coat 67 = .ok (.iload_n 2, 1) := by decide +kernel
theorem dX8_coat_68 : decode cX8_coat 68 = .ok (.iadd, 1) := by decide +kernel
theorem dX8_coat_69 : decode cX8_coat 69 = .ok (.iaload, 1) := by decide +kernel
theorem dX8_coat_70 : decode cX8_coat 70 = .ok (.ireturn, 1) := by decide +kernel
theorem dX8_colour_0 : decode cX8_colour 0 = .ok (.iload_n 1, 1) := by decide +kernel
theorem dX8_colour_1 : decode cX8_colour 1 = .ok (.iconst 0, 1) := by decide +kernel
theorem dX8_colour_2 : decode cX8_colour 2 = .ok (.bipush 11, 2) := by decide +kernel
theorem dX8_colour_4 : decode cX8_colour 4 = .ok (.invokestatic 116, 3) := by decide +kernel
theorem dX8_colour_7 : decode cX8_colour 7 = .ok (.ifCond .eq 12, 3) := by decide +kernel
theorem dX8_colour_10 : decode cX8_colour 10 = .ok (.iload_n 2, 1) := by decide +kernel
theorem dX8_colour_11 : decode cX8_colour 11 = .ok (.iconst 0, 1) := by decide +kernel
theorem dX8_colour_12 : decode cX8_colour 12 = .ok (.iconst 2, 1) := by decide +kernel
theorem dX8_colour_13 : decode cX8_colour 13 = .ok (.invokestatic 116, 3) := by decide +kernel
theorem dX8_colour_16 : decode cX8_colour 16 = .ok (.ifCond .ne 5, 3) := by decide +kernel
theorem dX8_colour_19 : decode cX8_colour 19 = .ok (.iconst (-1), 1) := by decide +kernel
theorem dX8_colour_20 : decode cX8_colour 20 = .ok (.ireturn, 1) := by decide +kernel
theorem dX8_colour_21 : decode cX8_colour 21 = .ok (.iload_n 2, 1) := by decide +kernel
theorem dX8_colour_22 : decode cX8_colour 22 = .ok (.ifCond .ne 12, 3) := by decide +kernel
theorem dX8_colour_25 : decode cX8_colour 25 = .ok (.aload_n 0, 1) := by decide +kernel
theorem dX8_colour_26 : decode cX8_colour 26 = .ok (.getfield 34, 3) := by decide +kernel
theorem dX8_colour_29 : decode cX8_colour 29 = .ok (.iload_n 1, 1) := by decide +kernel
theorem dX8_colour_30 : decode cX8_colour 30 = .ok (.iaload, 1) := by decide +kernel
theorem dX8_colour_31 : decode cX8_colour 31 = .ok (.goto 23, 3) := by decide +kernel
theorem dX8_colour_34 : decode cX8_colour 34 = .ok (.iload_n 2, 1) := by decide +kernel
theorem dX8_colour_35 : decode cX8_colour 35 = .ok (.iconst 1, 1) := by decide +kernel
theorem dX8_colour_36 : decode cX8_colour 36 = .ok (.if_icmp .ne 12, 3) := by decide +kernel
theorem dX8_colour_39 : decode cX8_colour 39 = .ok (.aload_n 0, 1) := by decide +kernel
theorem dX8_colour_40 : decode cX8_colour 40 = .ok (.getfield 37, 3) := by decide +kernel
theorem dX8_colour_43 : decode cX8_colour 43 = .ok (.iload_n 1, 1) := by decide +kernel
theorem dX8_colour_44 : decode cX8_colour 44 = .ok (.iaload, 1) := by decide +kernel
theorem dX8_colour_45 : decode cX8_colour 45 = .ok (.goto 9, 3) := by decide +kernel
theorem dX8_colour_48 : decode cX8_colour 48 = .ok (.aload_n 0, 1) := by decide +kernel
theorem dX8_colour_49 : decode cX8_colour 49 = .ok (.getfield 40, 3) := by decide +kernel
theorem dX8_colour_52 : decode cX8_colour 52 = .ok (.iload_n 1, 1) := by decide +kernel
theorem dX8_colour_53 : decode cX8_colour 53 = .ok (.iaload, 1) := by decide +kernel
theorem dX8_colour_54 : decode cX8_colour 54 = .ok (.ireturn, 1) := by decide +kernel
theorem dX8_tune_0 : decode cX8_tune 0 = .ok (.iload_n 1, 1) := by decide +kernel
theorem dX8_tune_1 : decode cX8_tune 1 = .ok (.ifCond .ne 13, 3) := by decide +kernel
theorem dX8_tune_4 : decode cX8_tune 4 = .ok (.iload_n 2, 1) := by decide +kernel
theorem dX8_tune_5 : decode cX8_tune 5 = .ok (.iconst 1, 1) := by decide +kernel
theorem dX8_tune_6 : decode cX8_tune 6 = .ok (.bipush 50, 2) := by decide +kernel
theorem dX8_tune_8 : decode cX8_tune 8 = .ok (.invokestatic 116, 3) := by decide +kernel
theorem dX8_tune_11 : decode cX8_tune 11 = .ok (.goto 67, 3) := by decide +kernel
theorem dX8_tune_14 : decode cX8_tune 14 = .ok (.iload_n 1, 1) := by decide +kernel
theorem dX8_tune_15 : decode cX8_tune 15 = .ok (.iconst 1, 1) := by decide +kernel
theorem dX8_tune_16 : decode cX8_tune 16 = .ok (.if_icmp .ne 13, 3) := by decide +kernel
theorem dX8_tune_19 : decode cX8_tune 19 = .ok (.iload_n 2, 1) := by decide +kernel
theorem dX8_tune_20 : decode cX8_tune 20 = .ok (.iconst 0, 1) := by decide +kernel
theorem dX8_tune_21 : decode cX8_tune 21 = .ok (.bipush 9, 2) := by decide +kernel
theorem dX8_tune_23 : decode cX8_tune 23 = .ok (.invokestatic 116, 3) := by decide +kernel
theorem dX8_tune_26 : decode cX8_tune 26 = .ok (.goto 52, 3) := by decide +kernel
theorem dX8_tune_29 : decode cX8_tune 29 = .ok (.iload_n 1, 1) := by decide +kernel
theorem dX8_tune_30 : decode cX8_tune 30 = .ok (.iconst 2, 1) := by decide +kernel
theorem dX8_tune_31 : decode cX8_tune 31 = .ok (.if_icmp .ne 12, 3) := by decide +kernel
theorem dX8_tune_34 : decode cX8_tune 34 = .ok (.iload_n 2, 1) := by decide +kernel
theorem dX8_tune_35 : decode cX8_tune 35 = .ok (.iconst 0, 1) := by decide +kernel
theorem dX8_tune_36 : decode cX8_tune 36 = .ok (.iconst 1, 1) := by decide +kernel
theorem dX8_tune_37 : decode cX8_tune 37 = .ok (.invokestatic 116, 3) := by decide +kernel
theorem dX8_tune_40 : decode cX8_tune 40 = .ok (.goto 38, 3) := by decide +kernel
theorem dX8_tune_43 : decode cX8_tune 43 = .ok (.iload_n 1, 1) := by decide +kernel
theorem dX8_tune_44 : decode cX8_tune 44 = .ok (.iconst 3, 1) := by decide +kernel
theorem dX8_tune_45 : decode cX8_tune 45 = .ok (.if_icmp .ne 13, 3) := by decide +kernel
theorem dX8_tune_48 : decode cX8_tune 48 = .ok (.iload_n 2, 1) := by decide +kernel
theorem dX8_tune_49 : decode cX8_tune 49 = .ok (.iconst 0, 1) := by decide +kernel
theorem dX8_tune_50 : decode cX8_tune 50 = .ok (.bipush 20, 2) := by decide +kernel
theorem dX8_tune_52 : decode cX8_tune 52 = .ok (.invokestatic 116, 3) := by decide +kernel
theorem dX8_tune_55 : decode cX8_tune 55 = .ok (.goto 23, 3) := by decide +kernel
theorem dX8_tune_58 : decode cX8_tune 58 = .ok (.iload_n 1, 1) := by decide +kernel
theorem dX8_tune_59 : decode cX8_tune 59 = .ok (.iconst 4, 1) := by decide +kernel
theorem dX8_tune_60 : decode cX8_tune 60 = .ok (.if_icmp .ne 17, 3) := by decide +kernel
theorem dX8_tune_63 : decode cX8_tune 63 = .ok (.iload_n 2, 1) := by decide +kernel
theorem dX8_tune_64 : decode cX8_tune 64 = .ok (.iconst 0, 1) := by decide +kernel
theorem dX8_tune_65 : decode cX8_tune 65 = .ok (.bipush 9, 2) := by decide +kernel
theorem dX8_tune_67 : decode cX8_tune 67 = .ok (.invokestatic 116, 3) := by decide +kernel
theorem dX8_tune_70 : decode cX8_tune 70 = .ok (.ifCond .eq 7, 3) := by decide +kernel
theorem dX8_tune_73 : decode cX8_tune 73 = .ok (.iconst 1, 1) := by decide +kernel
theorem dX8_tune_74 : decode cX8_tune 74 = .ok (.goto 4, 3) := by decide +kernel
theorem dX8_tune_77 : decode cX8_tune 77 = .ok (.iconst 0, 1) := by decide +kernel
theorem dX8_tune_78 : decode cX8_tune 78 = .ok (.istore_n 3, 1) := by decide +kernel
theorem dX8_tune_79 : decode cX8_tune 79 = .ok (.iload_n 3, 1) := by decide +kernel
theorem dX8_tune_80 : decode cX8_tune 80 = .ok (.ifCond .ne 5, 3) := by decide +kernel
theorem dX8_tune_83 : decode cX8_tune 83 = .ok (.iconst (-1), 1) := by decide +kernel
theorem dX8_tune_84 : decode cX8_tune 84 = .ok (.ireturn, 1) := by decide +kernel
theorem dX8_tune_85 : decode cX8_tune 85 = .ok (.aload_n 0, 1) := by decide +kernel
theorem dX8_tune_86 : decode cX8_tune 86 = .ok (.getfield 64, 3) := by decide +kernel
theorem dX8_tune_89 : decode cX8_tune 89 = .ok (.iload_n 1, 1) := by decide +kernel
theorem dX8_tune_90 : decode cX8_tune 90 = .ok (.iaload, 1) := by decide +kernel
theorem dX8_tune_91 : decode cX8_tune 91 = .ok (.istore 4, 2) := by decide +kernel
theorem dX8_tune_93 : decode cX8_tune 93 = .ok (.aload_n 0, 1) := by decide +kernel
theorem dX8_tune_94 : decode cX8_tune 94 = .ok (.getfield 64, 3) := by decide +kernel
theorem dX8_tune_97 : decode cX8_tune 97 = .ok (.iload_n 1, 1) := by decide +kernel
theorem dX8_tune_98 : decode cX8_tune 98 = .ok (.iload_n 2, 1) := by decide +kernel
theorem dX8_tune_99 : decode cX8_tune 99 = .ok (.iastore, 1) := by decide +kernel
theorem dX8_tune_100 : decode cX8_tune 100 = .ok (.aload_n 0, 1) := by decide +kernel
theorem dX8_tune_101 : decode cX8_tune 101 = .ok (.iconst 0, 1) := by decide +kernel
theorem dX8_tune_102 : decode cX8_tune 102 = .ok (.putfield 180, 3) := by decide +kernel
theorem dX8_tune_105 : decode cX8_tune 105 = .ok (.iload 4, 2) := by decide +kernel
theorem dX8_tune_107 : decode cX8_tune 107 = .ok (.ireturn, 1) := by decide +kernel
theorem dX8_isSame_0 : decode cX8_isSame 0 = .ok (.iload_n 1, 1) := by decide +kernel
theorem dX8_isSame_1 : decode cX8_isSame 1 = .ok (.iload_n 2, 1) := by decide +kernel
theorem dX8_isSame_2 : decode cX8_isSame 2 = .ok (.if_icmp .eq 26, 3) := by decide +kernel
theorem dX8_isSame_5 : decode cX8_isSame 5 = .ok (.aload_n 0, 1) := by decide +kernel
theorem dX8_isSame_6 : decode cX8_isSame 6 = .ok (.getfield 64, 3) := by decide +kernel
theorem dX8_isSame_9 : decode cX8_isSame 9 = .ok (.iconst 2, 1) := by decide +kernel
theorem dX8_isSame_10 : decode cX8_isSame 10 = .ok (.iaload, 1) := by decide +kernel
theorem dX8_isSame_11 : decode cX8_isSame 11 = .ok (.ifCond .ne 21, 3) := by decide +kernel
theorem dX8_isSame_14 : decode cX8_isSame 14 = .ok (.aload_n 0, 1) := by decide +kernel
theorem dX8_isSame_15 : decode cX8_isSame 15 = .ok (.getfield 40, 3) := by decide +kernel
theorem dX8_isSame_18 : decode cX8_isSame 18 = .ok (.iload_n 1, 1) := by decide +kernel
theorem dX8_isSame_19 : decode cX8_isSame 19 = .ok (.iaload, 1) := by decide +kernel
theorem dX8_isSame_20 : decode cX8_isSame 20 = .ok (.iload_n 2, 1) := by decide +kernel
theorem dX8_isSame_21 : decode cX8_isSame 21 = .ok (.ishr, 1) := by decide +kernel
theorem dX8_isSame_22 : decode cX8_isSame 22 = .ok (.iconst 1, 1) := by decide +kernel
theorem dX8_isSame_23 : decode cX8_isSame 23 = .ok (.iand, 1) := by decide +kernel
theorem dX8_isSame_24 : decode cX8_isSame 24 = .ok (.iconst 1, 1) := by decide +kernel
theorem dX8_isSame_25 : decode cX8_isSame 25 = .ok (.if_icmp .ne 7, 3) := by decide +kernel
theorem dX8_isSame_28 : decode cX8_isSame 28 = .ok (.iconst 1, 1) := by decide +kernel
theorem dX8_isSame_29 : decode cX8_isSame 29 = .ok (.goto 4, 3) := by decide +kernel
theorem dX8_isSame_32 : decode cX8_isSame 32 = .ok (.iconst 0, 1) := by decide +kernel
theorem dX8_isSame_33 : decode cX8_isSame 33 = .ok (.ireturn, 1) := by decide +kernel
theorem dX8_costOf_0 : decode cX8_costOf 0 = .ok (.aload_n 0, 1) := by decide +kernel
theorem dX8_costOf_1 : decode cX8_costOf 1 = .ok (.getfield 25, 3) := by decide +kernel
theorem dX8_costOf_4 : decode cX8_costOf 4 = .ok (.bipush 10, 2) := by decide +kernel
theorem dX8_costOf_6 : decode cX8_costOf 6 = .ok (.iload_n 1, 1) := by decide +kernel
theorem dX8_costOf_7 : decode cX8_costOf 7 = .ok (.imul, 1) := by decide +kernel
theorem dX8_costOf_8 : decode cX8_costOf 8 = .ok (.iload_n 3, 1) := by decide +kernel
theorem dX8_costOf_9 : decode cX8_costOf 9 = .ok (.iadd, 1) := by decide +kernel
theorem dX8_costOf_10 : decode cX8_costOf 10 = .ok (.iaload, 1) := by decide +kernel
theorem dX8_costOf_11 : decode cX8_costOf 11 = .ok (.aload_n 0, 1) := by decide +kernel
theorem dX8_costOf_12 : decode cX8_costOf 12 = .ok (.getfield 25, 3) := by decide +kernel
theorem dX8_costOf_15 : decode cX8_costOf 15 = .ok (.bipush 10, 2) := by decide +kernel
theorem dX8_costOf_17 : decode cX8_costOf 17 = .ok (.iload_n 2, 1) := by decide +kernel
theorem dX8_costOf_18 : decode cX8_costOf 18 = .ok (.imul, 1) := by decide +kernel
theorem dX8_costOf_19 : decode cX8_costOf 19 = .ok (.iload 5, 2) := by decide +kernel
theorem dX8_costOf_21 : decode cX8_costOf 21 = .ok (.iadd, 1) := by decide +kernel
theorem dX8_costOf_22 : decode cX8_costOf 22 = .ok (.iaload, 1) := by decide +kernel
theorem dX8_costOf_23 : decode cX8_costOf 23 = .ok (.isub, 1) := by decide +kernel
theorem dX8_costOf_24 : decode cX8_costOf 24 = .ok (.istore 6, 2) := by decide +kernel
theorem dX8_costOf_26 : decode cX8_costOf 26 = .ok (.iload 5, 2) := by decide +kernel
theorem dX8_costOf_28 : decode cX8_costOf 28 = .ok (.iload 4, 2) := by decide +kernel
theorem dX8_costOf_30 : decode cX8_costOf 30 = .ok (.isub, 1) := by decide +kernel
theorem dX8_costOf_31 : decode cX8_costOf 31 = .ok (.aload_n 0, 1) := by decide +kernel
theorem dX8_costOf_32 : decode cX8_costOf 32 = .ok (.getfield 64, 3) := by decide +kernel
theorem dX8_costOf_35 : decode cX8_costOf 35 = .ok (.iconst 0, 1) := by decide +kernel
theorem dX8_costOf_36 : decode cX8_costOf 36 = .ok (.iaload, 1) := by decide +kernel
theorem dX8_costOf_37 : decode cX8_costOf 37 = .ok (.imul, 1) := by decide +kernel
theorem dX8_costOf_38 : decode cX8_costOf 38 = .ok (.aload_n 0, 1) := by decide +kernel
theorem dX8_costOf_39 : decode cX8_costOf 39 = .ok (.getfield 64, 3) := by decide +kernel
theorem dX8_costOf_42 : decode cX8_costOf 42 = .ok (.iconst 1, 1) := by decide +kernel
theorem dX8_costOf_43 : decode cX8_costOf 43 = .ok (.iaload, 1) := by decide +kernel
theorem dX8_costOf_44 : decode cX8_costOf 44 = .ok (.iload 6, 2) := by decide +kernel
theorem dX8_costOf_46 : decode cX8_costOf 46 = .ok (.ifCond .ge 9, 3) := by decide +kernel
theorem dX8_costOf_49 : decode cX8_costOf 49 = .ok (.iload 6, 2) := by decide +kernel
theorem dX8_costOf_51 : decode cX8_costOf 51 = .ok (.ineg, 1) := by decide +kernel
theorem dX8_costOf_52 : decode cX8_costOf 52 = .ok (.goto 5, 3) := by decide +kernel
theorem dX8_costOf_55 : decode cX8_costOf 55 = .ok (.iload 6, 2) := by decide +kernel
theorem dX8_costOf_57 : decode cX8_costOf 57 = .ok (.imul, 1) := by decide +kernel
theorem dX8_costOf_58 : decode cX8_costOf 58 = .ok (.iadd, 1) := by decide +kernel
theorem dX8_costOf_59 : decode cX8_costOf 59 = .ok (.aload_n 0, 1) := by decide +kernel
theorem dX8_costOf_60 : decode cX8_costOf 60 = .ok (.getfield 85, 3) := by decide +kernel
theorem dX8_costOf_63 : decode cX8_costOf 63 = .ok (.bipush 11, 2) := by decide +kernel
theorem dX8_costOf_65 : decode cX8_costOf 65 = .ok (.iload_n 3, 1) := by decide +kernel
theorem dX8_costOf_66 : decode cX8_costOf 66 = .ok (.iconst 1, 1) := by decide +kernel
theorem dX8_costOf_67 : decode cX8_costOf 67 = .ok (.iadd, 1) := by decide +kernel
theorem dX8_costOf_68 : decode cX8_costOf 68 = .ok (.imul, 1) := by decide +kernel
theorem dX8_costOf_69 : decode cX8_costOf 69 = .ok (.iload 5, 2) := by decide +kernel
theorem dX8_costOf_71 : decode cX8_costOf 71 = .ok (.iadd, 1) := by decide +kernel
theorem dX8_costOf_72 : decode cX8_costOf 72 = .ok (.iconst 1, 1) := by decide +kernel
theorem dX8_costOf_73 : decode cX8_costOf 73 = .ok (.iadd, 1) := by decide +kernel
theorem dX8_costOf_74 : decode cX8_costOf 74 = .ok (.iaload, 1) := by decide +kernel
theorem dX8_costOf_75 : decode cX8_costOf 75 = .ok (.iadd, 1) := by decide +kernel
theorem dX8_costOf_76 : decode cX8_costOf 76 = .ok (.ireturn, 1) := by decide +kernel
theorem dX8_areSame_0 : decode cX8_areSame 0 = .ok (.aload_n 0, 1) := by decide +kernel
theorem dX8_areSame_1 : decode cX8_areSame 1 = .ok (.aload_n 0, 1) := by decide +kernel
theorem dX8_areSame_2 : decode cX8_areSame 2 = .ok (.getfield 22, 3) := by decide +kernel
theorem dX8_areSame_5 : decode cX8_areSame 5 = .ok (.bipush 10, 2) := by decide +kernel
theorem dX8_areSame_7 : decode cX8_areSame 7 = .ok (.iload_n 1, 1) := by decide +kernel
theorem dX8_areSame_8 : decode cX8_areSame 8 = .ok (.imul, 1) := by decide +kernel
theorem dX8_areSame_9 : decode cX8_areSame 9 = .ok (.iload_n 3, 1) := by decide +kernel
theorem dX8_areSame_10 : decode cX8_areSame 10 = .ok (.iadd, 1) := by decide +kernel
theorem dX8_areSame_11 : decode cX8_areSame 11 = .ok (.iaload, 1) := by decide +kernel
theorem dX8_areSame_12 : decode cX8_areSame 12 = .ok (.aload_n 0, 1) := by decide +kernel
theorem dX8_areSame_13 : decode cX8_areSame 13 = .ok (.getfield 22, 3) := by decide +kernel
theorem dX8_areSame_16 : decode cX8_areSame 16 = .ok (.bipush 10, 2) := by decide +kernel
theorem dX8_areSame_18 : decode cX8_areSame 18 = .ok (.iload_n 2, 1) := by decide +kernel
theorem dX8_areSame_19 : decode cX8_areSame 19 = .ok (.imul, 1) := by decide +kernel
theorem dX8_areSame_20 : decode cX8_areSame 20 = .ok (.iload 4, 2) := by decide +kernel
theorem dX8_areSame_22 : decode cX8_areSame 22 = .ok (.iadd, 1) := by decide +kernel
theorem dX8_areSame_23 : decode cX8_areSame 23 = .ok (.iaload, 1) := by decide +kernel
theorem dX8_areSame_24 : decode cX8_areSame 24 = .ok (.invokevirtual 208, 3) := by decide +kernel
theorem dX8_areSame_27 : decode cX8_areSame 27 = .ok (.ireturn, 1) := by decide +kernel
theorem dX8_lay_0 : decode cX8_lay 0 = .ok (.aload_n 0, 1) := by decide +kernel
theorem dX8_lay_1 : decode cX8_lay 1 = .ok (.getfield 19, 3) := by decide +kernel
theorem dX8_lay_4 : decode cX8_lay 4 = .ok (.iload_n 2, 1) := by decide +kernel
theorem dX8_lay_5 : decode cX8_lay 5 = .ok (.iaload, 1) := by decide +kernel
theorem dX8_lay_6 : decode cX8_lay 6 = .ok (.istore_n 3, 1) := by decide +kernel
theorem dX8_lay_7 : decode cX8_lay 7 = .ok (.aload_n 0, 1) := by decide +kernel
theorem dX8_lay_8 : decode cX8_lay 8 = .ok (.getfield 19, 3) := by decide +kernel
theorem dX8_lay_11 : decode cX8_lay 11 = .ok (.iload_n 1, 1) := by decide +kernel
theorem dX8_lay_12 : decode cX8_lay 12 = .ok (.iaload, 1) := by decide +kernel
theorem dX8_lay_13 : decode cX8_lay 13 = .ok (.istore 4, 2) := by decide +kernel
theorem dX8_lay_15 : decode cX8_lay 15 = .ok (.iload 4, 2) := by decide +kernel
theorem dX8_lay_17 : decode cX8_lay 17 = .ok (.ifCond .lt 237, 3) := by decide +kernel
theorem dX8_lay_20 : decode cX8_lay 20 = .ok (.iload_n 3, 1) := by decide +kernel
theorem dX8_lay_21 : decode cX8_lay 21 = .ok (.istore 5, 2) := by decide +kernel
theorem dX8_lay_23 : decode cX8_lay 23 = .ok (.iload 5, 2) := by decide +kernel
theorem dX8_lay_25 : decode cX8_lay 25 = .ok (.ifCond .lt 223, 3) := by decide +kernel
theorem dX8_lay_28 : decode cX8_lay 28 = .ok (.bipush 11, 2) := by decide +kernel
theorem dX8_lay_30 : decode cX8_lay 30 = .ok (.iload 4, 2) := by decide +kernel
theorem dX8_lay_32 : decode cX8_lay 32 = .ok (.imul, 1) := by decide +kernel
theorem dX8_lay_33 : decode cX8_lay 33 = .ok (.iload 5, 2) := by decide +kernel
theorem dX8_lay_35 : decode cX8_lay 35 = .ok (.iadd, 1) := by decide +kernel
theorem dX8_lay_36 : decode cX8_lay 36 = .ok (.istore 6, 2) := by decide +kernel
theorem dX8_lay_38 : decode cX8_lay 38 = .ok (.iload 4, 2) := by decide +kernel
theorem dX8_lay_40 : decode cX8_lay 40 = .ok (.aload_n 0, 1) := by decide +kernel
theorem dX8_lay_41 : decode cX8_lay 41 = .ok (.getfield 19, 3) := by decide +kernel
theorem dX8_lay_44 : decode cX8_lay 44 = .ok (.iload_n 1, 1) := by decide +kernel
theorem dX8_lay_45 : decode cX8_lay 45 = .ok (.iaload, 1) := by decide +kernel
theorem dX8_lay_46 : decode cX8_lay 46 = .ok (.if_icmp .ne 32, 3) := by decide +kernel
theorem dX8_lay_49 : decode cX8_lay 49 = .ok (.aload_n 0, 1) := by decide +kernel
theorem dX8_lay_50 : decode cX8_lay 50 = .ok (.getfield 85, 3) := by decide +kernel
theorem dX8_lay_53 : decode cX8_lay 53 = .ok (.iload 6, 2) := by decide +kernel
theorem dX8_lay_55 : decode cX8_lay 55 = .ok (.iload_n 3, 1) := by decide +kernel
theorem dX8_lay_56 : decode cX8_lay 56 = .ok (.iload 5, 2) := by decide +kernel
theorem dX8_lay_58 : decode cX8_lay 58 = .ok (.isub, 1) := by decide +kernel
theorem dX8_lay_59 : decode cX8_lay 59 = .ok (.aload_n 0, 1) := by decide +kernel
theorem dX8_lay_60 : decode cX8_lay 60 = .ok (.getfield 64, 3) := by decide +kernel
theorem dX8_lay_63 : decode cX8_lay 63 = .ok (.iconst 0, 1) := by decide +kernel
theorem dX8_lay_64 : decode cX8_lay 64 = .ok (.iaload, 1) := by decide +kernel
theorem dX8_lay_65 : decode cX8_lay 65 = .ok (.imul, 1) := by decide +kernel
theorem dX8_lay_66 : decode cX8_lay 66 = .ok (.iastore, 1) := by decide +kernel
theorem dX8_lay_67 : decode cX8_lay 67 = .ok (.aload_n 0, 1) := by decide +kernel
theorem dX8_lay_68 : decode cX8_lay 68 = .ok (.getfield 88, 3) := by decide +kernel
theorem dX8_lay_71 : decode cX8_lay 71 = .ok (.iload 6, 2) := by decide +kernel
theorem dX8_lay_73 : decode cX8_lay 73 = .ok (.lconst 1, 1) := by decide +kernel
theorem dX8_lay_74 : decode cX8_lay 74 = .ok (.lastore, 1) := by decide +kernel
theorem dX8_lay_75 : decode cX8_lay 75 = .ok (.goto 167, 3) := by decide +kernel
theorem dX8_lay_78 : decode cX8_lay 78 = .ok (.aload_n 0, 1) := by decide +kernel
theorem dX8_lay_79 : decode cX8_lay 79 = .ok (.getfield 85, 3) := by decide +kernel
theorem dX8_lay_82 : decode cX8_lay 82 = .ok (.iload 6, 2) := by decide +kernel
theorem dX8_lay_84 : decode cX8_lay 84 = .ok (.aload_n 0, 1) := by decide +kernel
theorem dX8_lay_85 : decode cX8_lay 85 = .ok (.getfield 64, 3) := by decide +kernel
theorem dX8_lay_88 : decode cX8_lay 88 = .ok (.iconst 0, 1) := by decide +kernel
theorem dX8_lay_89 : decode cX8_lay 89 = .ok (.iaload, 1) := by decide +kernel
theorem dX8_lay_90 : decode cX8_lay 90 = .ok (.aload_n 0, 1) := by decide +kernel
theorem dX8_lay_91 : decode cX8_lay 91 = .ok (.getfield 85, 3) := by decide +kernel
theorem dX8_lay_94 : decode cX8_lay 94 = .ok (.iload 6, 2) := by decide +kernel
theorem dX8_lay_96 : decode cX8_lay 96 = .ok (.bipush 11, 2) := by decide +kernel
theorem dX8_lay_98 : decode cX8_lay 98 = .ok (.iadd, 1) := by decide +kernel
theorem dX8_lay_99 : decode cX8_lay 99 = .ok (.iaload, 1) := by decide +kernel
theorem dX8_lay_100 : decode cX8_lay 100 = .ok (.iadd, 1) := by decide +kernel
theorem dX8_lay_101 : decode cX8_lay 101 = .ok (.iastore, 1) := by decide +kernel
theorem dX8_lay_102 : decode cX8_lay 102 = .ok (.aload_n 0, 1) := by decide +kernel
theorem dX8_lay_103 : decode cX8_lay 103 = .ok (.getfield 88, 3) := by decide +kernel
theorem dX8_lay_106 : decode cX8_lay 106 = .ok (.iload 6, 2) := by decide +kernel
theorem dX8_lay_108 : decode cX8_lay 108 = .ok (.aload_n 0, 1) := by decide +kernel
theorem dX8_lay_109 : decode cX8_lay 109 = .ok (.getfield 88, 3) := by decide +kernel
theorem dX8_lay_112 : decode cX8_lay 112 = .ok (.iload 6, 2) := by decide +kernel
theorem dX8_lay_114 : decode cX8_lay 114 = .ok (.bipush 11, 2) := by decide +kernel
theorem dX8_lay_116 : decode cX8_lay 116 = .ok (.iadd, 1) := by decide +kernel
theorem dX8_lay_117 : decode cX8_lay 117 = .ok (.laload, 1) := by decide +kernel
theorem dX8_lay_118 : decode cX8_lay 118 = .ok (.lastore, 1) := by decide +kernel
theorem dX8_lay_119 : decode cX8_lay 119 = .ok (.iload 5, 2) := by decide +kernel
theorem dX8_lay_121 : decode cX8_lay 121 = .ok (.istore 7, 2) := by decide +kernel
theorem dX8_lay_123 : decode cX8_lay 123 = .ok (.iload 7, 2) := by decide +kernel
theorem dX8_lay_125 : decode cX8_lay 125 = .ok (.iload_n 3, 1) := by decide +kernel
theorem dX8_lay_126 : decode cX8_lay 126 = .ok (.if_icmp .ge 116, 3) := by decide +kernel
theorem dX8_lay_129 : decode cX8_lay 129 = .ok (.aload_n 0, 1) := by decide +kernel
theorem dX8_lay_130 : decode cX8_lay 130 = .ok (.iload_n 1, 1) := by decide +kernel
theorem dX8_lay_131 : decode cX8_lay 131 = .ok (.iload_n 2, 1) := by decide +kernel
theorem dX8_lay_132 : decode cX8_lay 132 = .ok (.iload 4, 2) := by decide +kernel
theorem dX8_lay_134 : decode cX8_lay 134 = .ok (.iload 7, 2) := by decide +kernel
theorem dX8_lay_136 : decode cX8_lay 136 = .ok (.invokevirtual 211, 3) := by decide +kernel
theorem dX8_lay_139 : decode cX8_lay 139 = .ok (.ifCond .ne 6, 3) := by decide +kernel
theorem dX8_lay_142 : decode cX8_lay 142 = .ok (.goto 94, 3) := by decide +kernel
theorem dX8_lay_145 : decode cX8_lay 145 = .ok (.aload_n 0, 1) := by decide +kernel
theorem dX8_lay_146 : decode cX8_lay 146 = .ok (.iload_n 1, 1) := by decide +kernel
theorem dX8_lay_147 : decode cX8_lay 147 = .ok (.iload_n 2, 1) := by decide +kernel
theorem dX8_lay_148 : decode cX8_lay 148 = .ok (.iload 4, 2) := by decide +kernel
theorem dX8_lay_150 : decode cX8_lay 150 = .ok (.iload 5, 2) := by decide +kernel
theorem dX8_lay_152 : decode cX8_lay 152 = .ok (.iload 7, 2) := by decide +kernel
theorem dX8_lay_154 : decode cX8_lay 154 = .ok (.invokevirtual 215, 3) := by decide +kernel
theorem dX8_lay_157 : decode cX8_lay 157 = .ok (.istore 8, 2) := by decide +kernel
theorem dX8_lay_159 : decode cX8_lay 159 = .ok (.iload 8, 2) := by decide +kernel
theorem dX8_lay_161 : decode cX8_lay 161 = .ok (.aload_n 0, 1) := by decide +kernel
theorem dX8_lay_162 : decode cX8_lay 162 = .ok (.getfield 85, 3) := by decide +kernel
theorem dX8_lay_165 : decode cX8_lay 165 = .ok (.iload 6, 2) := by decide +kernel
theorem dX8_lay_167 : decode cX8_lay 167 = .ok (.iaload, 1) := by decide +kernel
theorem dX8_lay_168 : decode cX8_lay 168 = .ok (.if_icmp .ge 20, 3) := by decide +kernel
theorem dX8_lay_171 : decode cX8_lay 171 = .ok (.aload_n 0, 1) := by decide +kernel
theorem dX8_lay_172 : decode cX8_lay 172 = .ok (.getfield 85, 3) := by decide +kernel
theorem dX8_lay_175 : decode cX8_lay 175 = .ok (.iload 6, 2) := by decide +kernel
theorem dX8_lay_177 : decode cX8_lay 177 = .ok (.iload 8, 2) := by decide +kernel
theorem dX8_lay_179 : decode cX8_lay 179 = .ok (.iastore, 1) := by decide +kernel
theorem dX8_lay_180 : decode cX8_lay 180 = .ok (.aload_n 0, 1) := by decide +kernel
theorem dX8_lay_181 : decode cX8_lay 181 = .ok (.getfield 88, 3) := by decide +kernel
theorem dX8_lay_184 : decode cX8_lay 184 = .ok (.iload 6, 2) := by decide +kernel
theorem dX8_lay_186 : decode cX8_lay 186 = .ok (.lconst 0, 1) := by decide +kernel
theorem dX8_lay_187 : decode cX8_lay 187 = .ok (.lastore, 1) := by decide +kernel
theorem dX8_lay_188 : decode cX8_lay 188 = .ok (.aload_n 0, 1) := by decide +kernel
theorem dX8_lay_189 : decode cX8_lay 189 = .ok (.getfield 88, 3) := by decide +kernel
theorem dX8_lay_192 : decode cX8_lay 192 = .ok (.iload 6, 2) := by decide +kernel
theorem dX8_lay_194 : decode cX8_lay 194 = .ok (.aload_n 0, 1) := by decide +kernel
theorem dX8_lay_195 : decode cX8_lay 195 = .ok (.getfield 88, 3) := by decide +kernel
theorem dX8_lay_198 : decode cX8_lay 198 = .ok (.iload 6, 2) := by decide +kernel
theorem dX8_lay_200 : decode cX8_lay 200 = .ok (.laload, 1) := by decide +kernel
theorem dX8_lay_201 : decode cX8_lay 201 = .ok (.iload 8, 2) := by decide +kernel
theorem dX8_lay_203 : decode cX8_lay 203 = .ok (.aload_n 0, 1) := by decide +kernel
theorem dX8_lay_204 : decode cX8_lay 204 = .ok (.getfield 85, 3) := by decide +kernel
theorem dX8_lay_207 : decode cX8_lay 207 = .ok (.iload 6, 2) := by decide +kernel
theorem dX8_lay_209 : decode cX8_lay 209 = .ok (.iaload, 1) := by decide +kernel
theorem dX8_lay_210 : decode cX8_lay 210 = .ok (.if_icmp .ne 23, 3) := by decide +kernel
theorem dX8_lay_213 : decode cX8_lay 213 = .ok (.aload_n 0, 1) := by decide +kernel
theorem dX8_lay_214 : decode cX8_lay 214 = .ok (.getfield 88, 3) := by decide +kernel
theorem dX8_lay_217 : decode cX8_lay 217 = .ok (.bipush 11, 2) := by decide +kernel
theorem dX8_lay_219 : decode cX8_lay 219 = .ok (.iload 4, 2) := by decide +kernel
theorem dX8_lay_221 : decode cX8_lay 221 = .ok (.iconst 1, 1) := by decide +kernel
theorem dX8_lay_222 : decode cX8_lay 222 = .ok (.iadd, 1) := by decide +kernel
theorem dX8_lay_223 : decode cX8_lay 223 = .ok (.imul, 1) := by decide +kernel
theorem dX8_lay_224 : decode cX8_lay 224 = .ok (.iload 7, 2) := by decide +kernel
theorem dX8_lay_226 : decode cX8_lay 226 = .ok (.iadd, 1) := by decide +kernel
theorem dX8_lay_227 : decode cX8_lay 227 = .ok (.iconst 1, 1) := by decide +kernel
theorem dX8_lay_228 : decode cX8_lay 228 = .ok (.iadd, 1) := by decide +kernel
theorem dX8_lay_229 : decode cX8_lay 229 = .ok (.laload, 1) := by decide +kernel
theorem dX8_lay_230 : decode cX8_lay 230 = .ok (.goto 4, 3) := by decide +kernel
theorem dX8_lay_233 : decode cX8_lay 233 = .ok (.lconst 0, 1) := by decide +kernel
theorem dX8_lay_234 : decode cX8_lay 234 = .ok (.ladd, 1) := by decide +kernel
theorem dX8_lay_235 : decode cX8_lay 235 = .ok (.lastore, 1) := by decide +kernel
theorem dX8_lay_236 : decode cX8_lay 236 = .ok (.iinc 7 1, 3) := by decide +kernel
theorem dX8_lay_239 : decode cX8_lay 239 = .ok (.goto (-116), 3) := by decide +kernel
theorem dX8_lay_242 : decode cX8_lay 242 = .ok (.iinc 5 (-1), 3) := by decide +kernel
theorem dX8_lay_245 : decode cX8_lay 245 = .ok (.goto (-222), 3) := by decide +kernel
theorem dX8_lay_248 : decode cX8_lay 248 = .ok (.iinc 4 (-1), 3) := by decide +kernel
theorem dX8_lay_251 : decode cX8_lay 251 = .ok (.goto (-236), 3) := by decide +kernel
theorem dX8_lay_254 : decode cX8_lay 254 = .ok (.return_, 1) := by decide +kernel
theorem dX8_areTwo_0 : decode cX8_areTwo 0 = .ok (.aload_n 0, 1) := by decide +kernel
theorem dX8_areTwo_1 : decode cX8_areTwo 1 = .ok (.iload_n 1, 1) := by decide +kernel
theorem dX8_areTwo_2 : decode cX8_areTwo 2 = .ok (.invokevirtual 199, 3) := by decide +kernel
theorem dX8_areTwo_5 : decode cX8_areTwo 5 = .ok (.ifCond .eq 20, 3) := by decide +kernel
theorem dX8_areTwo_8 : decode cX8_areTwo 8 = .ok (.aload_n 0, 1) := by decide +kernel
theorem dX8_areTwo_9 : decode cX8_areTwo 9 = .ok (.iload_n 2, 1) := by decide +kernel
theorem dX8_areTwo_10 : decode cX8_areTwo 10 = .ok (.invokevirtual 199, 3) := by decide +kernel
theorem dX8_areTwo_13 : decode cX8_areTwo 13 = .ok (.ifCond .eq 12, 3) := by decide +kernel
theorem dX8_areTwo_16 : decode cX8_areTwo 16 = .ok (.iload_n 1, 1) := by decide +kernel
theorem dX8_areTwo_17 : decode cX8_areTwo 17 = .ok (.iload_n 2, 1) := by decide +kernel
theorem dX8_areTwo_18 : decode cX8_areTwo 18 = .ok (.if_icmp .eq 7, 3) := by decide +kernel
theorem dX8_areTwo_21 : decode cX8_areTwo 21 = .ok (.iconst 1, 1) := by decide +kernel
theorem dX8_areTwo_22 : decode cX8_areTwo 22 = .ok (.goto 4, 3) := by decide +kernel
theorem dX8_areTwo_25 : decode cX8_areTwo 25 = .ok (.iconst 0, 1) := by decide +kernel
theorem dX8_areTwo_26 : decode cX8_areTwo 26 = .ok (.ireturn, 1) := by decide +kernel
theorem dX8_least_0 : decode cX8_least 0 = .ok (.aload_n 0, 1) := by decide +kernel
theorem dX8_least_1 : decode cX8_least 1 = .ok (.iload_n 1, 1) := by decide +kernel
theorem dX8_least_2 : decode cX8_least 2 = .ok (.iload_n 2, 1) := by decide +kernel
theorem dX8_least_3 : decode cX8_least 3 = .ok (.invokevirtual 219, 3) := by decide +kernel
theorem dX8_least_6 : decode cX8_least 6 = .ok (.ifCond .ne 5, 3) := by decide +kernel
theorem dX8_least_9 : decode cX8_least 9 = .ok (.iconst (-1), 1) := by decide +kernel
theorem dX8_least_10 : decode cX8_least 10 = .ok (.ireturn, 1) := by decide +kernel
theorem dX8_least_11 : decode cX8_least 11 = .ok (.aload_n 0, 1) := by decide +kernel
theorem dX8_least_12 : decode cX8_least 12 = .ok (.iload_n 1, 1) := by decide +kernel
theorem dX8_least_13 : decode cX8_least 13 = .ok (.iload_n 2, 1) := by decide +kernel
theorem dX8_least_14 : decode cX8_least 14 = .ok (.invokevirtual 222, 3) := by decide +kernel
theorem dX8_least_17 : decode cX8_least 17 = .ok (.aload_n 0, 1) := by decide +kernel
theorem dX8_least_18 : decode cX8_least 18 = .ok (.getfield 85, 3) := by decide +kernel
theorem dX8_least_21 : decode cX8_least 21 = .ok (.iconst 0, 1) := by decide +kernel
theorem dX8_least_22 : decode cX8_least 22 = .ok (.iaload, 1) := by decide +kernel
theorem dX8_least_23 : decode cX8_least 23 = .ok (.ireturn, 1) := by decide +kernel
theorem dX8_ways_0 : decode cX8_ways 0 = .ok (.aload_n 0, 1) := by decide +kernel
theorem dX8_ways_1 : decode cX8_ways 1 = .ok (.iload_n 1, 1) := by decide +kernel
theorem dX8_ways_2 : decode cX8_ways 2 = .ok (.iload_n 2, 1) := by decide +kernel
theorem dX8_ways_3 : decode cX8_ways 3 = .ok (.invokevirtual 219, 3) := by decide +kernel
theorem dX8_ways_6 : decode cX8_ways 6 = .ok (.ifCond .ne 7, 3) := by decide +kernel
theorem dX8_ways_9 : decode cX8_ways 9 = .ok (.ldc2_w 226, 3) := by decide +kernel
theorem dX8_ways_12 : decode cX8_ways 12 = .ok (.lreturn, 1) := by decide +kernel
theorem dX8_ways_13 : decode cX8_ways 13 = .ok (.aload_n 0, 1) := by decide +kernel
theorem dX8_ways_14 : decode cX8_ways 14 = .ok (.iload_n 1, 1) := by decide +kernel
theorem dX8_ways_15 : decode cX8_ways 15 = .ok (.iload_n 2, 1) := by decide +kernel
theorem dX8_ways_16 : decode cX8_ways 16 = .ok (.invokevirtual 222, 3) := by decide +kernel
theorem dX8_ways_19 : decode cX8_ways 19 = .ok (.aload_n 0, 1) := by decide +kernel
theorem dX8_ways_20 : decode cX8_ways 20 = .ok (.getfield 88, 3) := by decide +kernel
theorem dX8_ways_23 : decode cX8_ways 23 = .ok (.iconst 0, 1) := by decide +kernel
theorem dX8_ways_24 : decode cX8_ways 24 = .ok (.laload, 1) := by decide +kernel
theorem dX8_ways_25 : decode cX8_ways 25 = .ok (.lreturn, 1) := by decide +kernel
theorem dX8_laid_0 : decode cX8_laid 0 = .ok (.aload_n 0, 1) := by decide +kernel
theorem dX8_laid_1 : decode cX8_laid 1 = .ok (.iload_n 1, 1) := by decide +kernel
theorem dX8_laid_2 : decode cX8_laid 2 = .ok (.iload_n 2, 1) := by decide +kernel
theorem dX8_laid_3 : decode cX8_laid 3 = .ok (.invokevirtual 219, 3) := by decide +kernel
theorem dX8_laid_6 : decode cX8_laid 6 = .ok (.ifCond .eq 19, 3) := by decide +kernel
theorem dX8_laid_9 : decode cX8_laid 9 = .ok (.iload_n 3, 1) := by decide +kernel
theorem dX8_laid_10 : decode cX8_laid 10 = .ok (.iconst 0, 1) := by decide +kernel
theorem dX8_laid_11 : decode cX8_laid 11 = .ok (.aload_n 0, 1) := by decide +kernel
theorem dX8_laid_12 : decode cX8_laid 12 = .ok (.getfield 19, 3) := by decide +kernel
theorem dX8_laid_15 : decode cX8_laid 15 = .ok (.iload_n 1, 1) := by decide +kernel
theorem dX8_laid_16 : decode cX8_laid 16 = .ok (.iaload, 1) := by decide +kernel
theorem dX8_laid_17 : decode cX8_laid 17 = .ok (.iconst 1, 1) := by decide +kernel
theorem dX8_laid_18 : decode cX8_laid 18 = .ok (.isub, 1) := by decide +kernel
theorem dX8_laid_19 : decode cX8_laid 19 = .ok (.invokestatic 116, 3) := by decide +kernel
theorem dX8_laid_22 : decode cX8_laid 22 = .ok (.ifCond .ne 5, 3) := by decide +kernel
theorem dX8_laid_25 : decode cX8_laid 25 = .ok (.iconst (-1), 1) := by decide +kernel
theorem dX8_laid_26 : decode cX8_laid 26 = .ok (.ireturn, 1) := by decide +kernel
theorem dX8_laid_27 : decode cX8_laid 27 = .ok (.aload_n 0, 1) := by decide +kernel
theorem dX8_laid_28 : decode cX8_laid 28 = .ok (.iload_n 1, 1) := by decide +kernel
theorem dX8_laid_29 : decode cX8_laid 29 = .ok (.iload_n 2, 1) := by decide +kernel
theorem dX8_laid_30 : decode cX8_laid 30 = .ok (.invokevirtual 222, 3) := by decide +kernel
theorem dX8_laid_33 : decode cX8_laid 33 = .ok (.iconst 0, 1) := by decide +kernel
theorem dX8_laid_34 : decode cX8_laid 34 = .ok (.istore 4, 2) := by decide +kernel
theorem dX8_laid_36 : decode cX8_laid 36 = .ok (.bipush (-9), 2) := by decide +kernel
theorem dX8_laid_38 : decode cX8_laid 38 = .ok (.istore 5, 2) := by decide +kernel
theorem dX8_laid_40 : decode cX8_laid 40 = .ok (.iconst 0, 1) := by decide +kernel
theorem dX8_laid_41 : decode cX8_laid 41 = .ok (.istore 6, 2) := by decide +kernel
theorem dX8_laid_43 : decode cX8_laid 43 = .ok (.iload 6, 2) := by decide +kernel
theorem dX8_laid_45 : decode cX8_laid 45 = .ok (.iload_n 3, 1) := by decide +kernel
theorem dX8_laid_46 : decode cX8_laid 46 = .ok (.if_icmp .gt 104, 3) := by decide +kernel
theorem dX8_laid_49 : decode cX8_laid 49 = .ok (.bipush (-9), 2) := by decide +kernel
theorem dX8_laid_51 : decode cX8_laid 51 = .ok (.istore 5, 2) := by decide +kernel
theorem dX8_laid_53 : decode cX8_laid 53 = .ok (.aload_n 0, 1) := by decide +kernel
theorem dX8_laid_54 : decode cX8_laid 54 = .ok (.getfield 19, 3) := by decide +kernel
theorem dX8_laid_57 : decode cX8_laid 57 = .ok (.iload_n 2, 1) := by decide +kernel
theorem dX8_laid_58 : decode cX8_laid 58 = .ok (.iaload, 1) := by decide +kernel
theorem dX8_laid_59 : decode cX8_laid 59 = .ok (.iconst 1, 1) := by decide +kernel
theorem dX8_laid_60 : decode cX8_laid 60 = .ok (.isub, 1) := by decide +kernel
theorem dX8_laid_61 : decode cX8_laid 61 = .ok (.istore 7, 2) := by decide +kernel
theorem dX8_laid_63 : decode cX8_laid 63 = .ok (.iload 7, 2) := by decide +kernel
theorem dX8_laid_65 : decode cX8_laid 65 = .ok (.iload 4, 2) := by decide +kernel
theorem dX8_laid_67 : decode cX8_laid 67 = .ok (.if_icmp .lt 59, 3) := by decide +kernel
theorem dX8_laid_70 : decode cX8_laid 70 = .ok (.aload_n 0, 1) := by decide +kernel
theorem dX8_laid_71 : decode cX8_laid 71 = .ok (.iload_n 1, 1) := by decide +kernel
theorem dX8_laid_72 : decode cX8_laid 72 = .ok (.iload_n 2, 1) := by decide +kernel
theorem dX8_laid_73 : decode cX8_laid 73 = .ok (.iload 6, 2) := by decide +kernel
theorem dX8_laid_75 : decode cX8_laid 75 = .ok (.iload 7, 2) := by decide +kernel
theorem dX8_laid_77 : decode cX8_laid 77 = .ok (.invokevirtual 211, 3) := by decide +kernel
theorem dX8_laid_80 : decode cX8_laid 80 = .ok (.ifCond .eq 36, 3) := by decide +kernel
theorem dX8_laid_83 : decode cX8_laid 83 = .ok (.aload_n 0, 1) := by decide +kernel
theorem dX8_laid_84 : decode cX8_laid 84 = .ok (.iload_n 1, 1) := by decide +kernel
theorem dX8_laid_85 : decode cX8_laid 85 = .ok (.iload_n 2, 1) := by decide +kernel
theorem dX8_laid_86 : decode cX8_laid 86 = .ok (.iload 6, 2) := by decide +kernel
theorem dX8_laid_88 : decode cX8_laid 88 = .ok (.iload 4, 2) := by decide +kernel
theorem dX8_laid_90 : decode cX8_laid 90 = .ok (.iload 7, 2) := by decide +kernel

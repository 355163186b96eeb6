theorem dX8_laid_92 : decode cX8_laid 92 = .ok (.invokevirtual 215, 3) := by decide +kernel
theorem dX8_laid_95 : decode cX8_laid 95 = .ok (.aload_n 0, 1) := by decide +kernel
theorem dX8_laid_96 : decode cX8_laid 96 = .ok (.getfield 85, 3) := by decide +kernel
theorem dX8_laid_99 : decode cX8_laid 99 = .ok (.bipush 11, 2) := by decide +kernel
theorem dX8_laid_101 : decode cX8_laid 101 = .ok (.iload 6, 2) := by decide +kernel
theorem dX8_laid_103 : decode cX8_laid 103 = .ok (.imul, 1) := by decide +kernel
theorem dX8_laid_104 : decode cX8_laid 104 = .ok (.iload 4, 2) := by decide +kernel
theorem dX8_laid_106 : decode cX8_laid 106 = .ok (.iadd, 1) := by decide +kernel
theorem dX8_laid_107 : decode cX8_laid 107 = .ok (.iaload, 1) := by decide +kernel
theorem dX8_laid_108 : decode cX8_laid 108 = .ok (.if_icmp .ne 8, 3) := by decide +kernel
theorem dX8_laid_111 : decode cX8_laid 111 = .ok (.iload 7, 2) := by decide +kernel
theorem dX8_laid_113 : decode cX8_laid 113 = .ok (.goto 5, 3) := by decide +kernel
theorem dX8_laid_116 : decode cX8_laid 116 = .ok (.iload 5, 2) := by decide +kernel
theorem dX8_laid_118 : decode cX8_laid 118 = .ok (.istore 5, 2) := by decide +kernel
theorem dX8_laid_120 : decode cX8_laid 120 = .ok (.iinc 7 (-1), 3) := by decide +kernel
theorem dX8_laid_123 : decode cX8_laid 123 = .ok (.goto (-60), 3) := by decide +kernel
theorem dX8_laid_126 : decode cX8_laid 126 = .ok (.iload 5, 2) := by decide +kernel
theorem dX8_laid_128 : decode cX8_laid 128 = .ok (.bipush (-9), 2) := by decide +kernel
theorem dX8_laid_130 : decode cX8_laid 130 = .ok (.if_icmp .ne 8, 3) := by decide +kernel
theorem dX8_laid_133 : decode cX8_laid 133 = .ok (.iload 4, 2) := by decide +kernel
theorem dX8_laid_135 : decode cX8_laid 135 = .ok (.goto 7, 3) := by decide +kernel
theorem dX8_laid_138 : decode cX8_laid 138 = .ok (.iload 5, 2) := by decide +kernel
theorem dX8_laid_140 : decode cX8_laid 140 = .ok (.iconst 1, 1) := by decide +kernel
theorem dX8_laid_141 : decode cX8_laid 141 = .ok (.iadd, 1) := by decide +kernel
theorem dX8_laid_142 : decode cX8_laid 142 = .ok (.istore 4, 2) := by decide +kernel
theorem dX8_laid_144 : decode cX8_laid 144 = .ok (.iinc 6 1, 3) := by decide +kernel
theorem dX8_laid_147 : decode cX8_laid 147 = .ok (.goto (-104), 3) := by decide +kernel
theorem dX8_laid_150 : decode cX8_laid 150 = .ok (.iload 5, 2) := by decide +kernel
theorem dX8_laid_152 : decode cX8_laid 152 = .ok (.ireturn, 1) := by decide +kernel
theorem dX8_behind_0 : decode cX8_behind 0 = .ok (.iconst 0, 1) := by decide +kernel
theorem dX8_behind_1 : decode cX8_behind 1 = .ok (.istore_n 2, 1) := by decide +kernel
theorem dX8_behind_2 : decode cX8_behind 2 = .ok (.aload_n 0, 1) := by decide +kernel
theorem dX8_behind_3 : decode cX8_behind 3 = .ok (.iconst 0, 1) := by decide +kernel
theorem dX8_behind_4 : decode cX8_behind 4 = .ok (.putfield 228, 3) := by decide +kernel
theorem dX8_behind_7 : decode cX8_behind 7 = .ok (.iconst 0, 1) := by decide +kernel
theorem dX8_behind_8 : decode cX8_behind 8 = .ok (.istore_n 3, 1) := by decide +kernel
theorem dX8_behind_9 : decode cX8_behind 9 = .ok (.iload_n 3, 1) := by decide +kernel
theorem dX8_behind_10 : decode cX8_behind 10 = .ok (.aload_n 0, 1) := by decide +kernel
theorem dX8_behind_11 : decode cX8_behind 11 = .ok (.getfield 173, 3) := by decide +kernel
theorem dX8_behind_14 : decode cX8_behind 14 = .ok (.if_icmp .ge 116, 3) := by decide +kernel
theorem dX8_behind_17 : decode cX8_behind 17 = .ok (.aload_n 0, 1) := by decide +kernel
theorem dX8_behind_18 : decode cX8_behind 18 = .ok (.getfield 95, 3) := by decide +kernel
theorem dX8_behind_21 : decode cX8_behind 21 = .ok (.iload_n 3, 1) := by decide +kernel
theorem dX8_behind_22 : decode cX8_behind 22 = .ok (.iaload, 1) := by decide +kernel
theorem dX8_behind_23 : decode cX8_behind 23 = .ok (.aload_n 0, 1) := by decide +kernel
theorem dX8_behind_24 : decode cX8_behind 24 = .ok (.getfield 19, 3) := by decide +kernel
theorem dX8_behind_27 : decode cX8_behind 27 = .ok (.iload_n 3, 1) := by decide +kernel
theorem dX8_behind_28 : decode cX8_behind 28 = .ok (.iaload, 1) := by decide +kernel
theorem dX8_behind_29 : decode cX8_behind 29 = .ok (.if_icmp .ge 31, 3) := by decide +kernel
theorem dX8_behind_32 : decode cX8_behind 32 = .ok (.aload_n 0, 1) := by decide +kernel
theorem dX8_behind_33 : decode cX8_behind 33 = .ok (.iload_n 1, 1) := by decide +kernel
theorem dX8_behind_34 : decode cX8_behind 34 = .ok (.aload_n 0, 1) := by decide +kernel
theorem dX8_behind_35 : decode cX8_behind 35 = .ok (.getfield 22, 3) := by decide +kernel
theorem dX8_behind_38 : decode cX8_behind 38 = .ok (.bipush 10, 2) := by decide +kernel
theorem dX8_behind_40 : decode cX8_behind 40 = .ok (.iload_n 3, 1) := by decide +kernel
theorem dX8_behind_41 : decode cX8_behind 41 = .ok (.imul, 1) := by decide +kernel
theorem dX8_behind_42 : decode cX8_behind 42 = .ok (.aload_n 0, 1) := by decide +kernel
theorem dX8_behind_43 : decode cX8_behind 43 = .ok (.getfield 95, 3) := by decide +kernel
theorem dX8_behind_46 : decode cX8_behind 46 = .ok (.iload_n 3, 1) := by decide +kernel
theorem dX8_behind_47 : decode cX8_behind 47 = .ok (.iaload, 1) := by decide +kernel
theorem dX8_behind_48 : decode cX8_behind 48 = .ok (.iadd, 1) := by decide +kernel
theorem dX8_behind_49 : decode cX8_behind 49 = .ok (.iaload, 1) := by decide +kernel
theorem dX8_behind_50 : decode cX8_behind 50 = .ok (.invokevirtual 208, 3) := by decide +kernel
theorem dX8_behind_53 : decode cX8_behind 53 = .ok (.ifCond .eq 7, 3) := by decide +kernel
theorem dX8_behind_56 : decode cX8_behind 56 = .ok (.iconst 1, 1) := by decide +kernel
theorem dX8_behind_57 : decode cX8_behind 57 = .ok (.goto 4, 3) := by decide +kernel
theorem dX8_behind_60 : decode cX8_behind 60 = .ok (.iconst 0, 1) := by decide +kernel
theorem dX8_behind_61 : decode cX8_behind 61 = .ok (.istore 4, 2) := by decide +kernel
theorem dX8_behind_63 : decode cX8_behind 63 = .ok (.aload_n 0, 1) := by decide +kernel
theorem dX8_behind_64 : decode cX8_behind 64 = .ok (.getfield 98, 3) := by decide +kernel
theorem dX8_behind_67 : decode cX8_behind 67 = .ok (.iload_n 3, 1) := by decide +kernel
theorem dX8_behind_68 : decode cX8_behind 68 = .ok (.iload 4, 2) := by decide +kernel
theorem dX8_behind_70 : decode cX8_behind 70 = .ok (.ifCond .eq 14, 3) := by decide +kernel
theorem dX8_behind_73 : decode cX8_behind 73 = .ok (.aload_n 0, 1) := by decide +kernel
theorem dX8_behind_74 : decode cX8_behind 74 = .ok (.getfield 95, 3) := by decide +kernel
theorem dX8_behind_77 : decode cX8_behind 77 = .ok (.iload_n 3, 1) := by decide +kernel
theorem dX8_behind_78 : decode cX8_behind 78 = .ok (.iaload, 1) := by decide +kernel
theorem dX8_behind_79 : decode cX8_behind 79 = .ok (.iconst 1, 1) := by decide +kernel
theorem dX8_behind_80 : decode cX8_behind 80 = .ok (.iadd, 1) := by decide +kernel
theorem dX8_behind_81 : decode cX8_behind 81 = .ok (.goto 9, 3) := by decide +kernel
theorem dX8_behind_84 : decode cX8_behind 84 = .ok (.aload_n 0, 1) := by decide +kernel
theorem dX8_behind_85 : decode cX8_behind 85 = .ok (.getfield 95, 3) := by decide +kernel
theorem dX8_behind_88 : decode cX8_behind 88 = .ok (.iload_n 3, 1) := by decide +kernel
theorem dX8_behind_89 : decode cX8_behind 89 = .ok (.iaload, 1) := by decide +kernel
theorem dX8_behind_90 : decode cX8_behind 90 = .ok (.iastore, 1) := by decide +kernel
theorem dX8_behind_91 : decode cX8_behind 91 = .ok (.aload_n 0, 1) := by decide +kernel
theorem dX8_behind_92 : decode cX8_behind 92 = .ok (.aload_n 0, 1) := by decide +kernel
theorem dX8_behind_93 : decode cX8_behind 93 = .ok (.getfield 228, 3) := by decide +kernel
theorem dX8_behind_96 : decode cX8_behind 96 = .ok (.ifCond .ne 8, 3) := by decide +kernel
theorem dX8_behind_99 : decode cX8_behind 99 = .ok (.iload 4, 2) := by decide +kernel
theorem dX8_behind_101 : decode cX8_behind 101 = .ok (.ifCond .eq 7, 3) := by decide +kernel
theorem dX8_behind_104 : decode cX8_behind 104 = .ok (.iconst 1, 1) := by decide +kernel
theorem dX8_behind_105 : decode cX8_behind 105 = .ok (.goto 4, 3) := by decide +kernel
theorem dX8_behind_108 : decode cX8_behind 108 = .ok (.iconst 0, 1) := by decide +kernel
theorem dX8_behind_109 : decode cX8_behind 109 = .ok (.putfield 228, 3) := by decide +kernel
theorem dX8_behind_112 : decode cX8_behind 112 = .ok (.bipush 11, 2) := by decide +kernel
theorem dX8_behind_114 : decode cX8_behind 114 = .ok (.iload_n 2, 1) := by decide +kernel
theorem dX8_behind_115 : decode cX8_behind 115 = .ok (.imul, 1) := by decide +kernel
theorem dX8_behind_116 : decode cX8_behind 116 = .ok (.aload_n 0, 1) := by decide +kernel
theorem dX8_behind_117 : decode cX8_behind 117 = .ok (.getfield 98, 3) := by decide +kernel
theorem dX8_behind_120 : decode cX8_behind 120 = .ok (.iload_n 3, 1) := by decide +kernel
theorem dX8_behind_121 : decode cX8_behind 121 = .ok (.iaload, 1) := by decide +kernel
theorem dX8_behind_122 : decode cX8_behind 122 = .ok (.iadd, 1) := by decide +kernel
theorem dX8_behind_123 : decode cX8_behind 123 = .ok (.istore_n 2, 1) := by decide +kernel
theorem dX8_behind_124 : decode cX8_behind 124 = .ok (.iinc 3 1, 3) := by decide +kernel
theorem dX8_behind_127 : decode cX8_behind 127 = .ok (.goto (-118), 3) := by decide +kernel
theorem dX8_behind_130 : decode cX8_behind 130 = .ok (.iload_n 2, 1) := by decide +kernel
theorem dX8_behind_131 : decode cX8_behind 131 = .ok (.ireturn, 1) := by decide +kernel
theorem dX8_make_0 : decode cX8_make 0 = .ok (.aload_n 0, 1) := by decide +kernel
theorem dX8_make_1 : decode cX8_make 1 = .ok (.getfield 180, 3) := by decide +kernel
theorem dX8_make_4 : decode cX8_make 4 = .ok (.ifCond .eq 4, 3) := by decide +kernel
theorem dX8_make_7 : decode cX8_make 7 = .ok (.return_, 1) := by decide +kernel
theorem dX8_make_8 : decode cX8_make 8 = .ok (.aload_n 0, 1) := by decide +kernel
theorem dX8_make_9 : decode cX8_make 9 = .ok (.iconst 1, 1) := by decide +kernel
theorem dX8_make_10 : decode cX8_make 10 = .ok (.putfield 180, 3) := by decide +kernel
theorem dX8_make_13 : decode cX8_make 13 = .ok (.iconst 1, 1) := by decide +kernel
theorem dX8_make_14 : decode cX8_make 14 = .ok (.istore_n 1, 1) := by decide +kernel
theorem dX8_make_15 : decode cX8_make 15 = .ok (.iconst 0, 1) := by decide +kernel
theorem dX8_make_16 : decode cX8_make 16 = .ok (.istore_n 2, 1) := by decide +kernel
theorem dX8_make_17 : decode cX8_make 17 = .ok (.iload_n 2, 1) := by decide +kernel
theorem dX8_make_18 : decode cX8_make 18 = .ok (.aload_n 0, 1) := by decide +kernel
theorem dX8_make_19 : decode cX8_make 19 = .ok (.getfield 173, 3) := by decide +kernel
theorem dX8_make_22 : decode cX8_make 22 = .ok (.if_icmp .ge 14, 3) := by decide +kernel
theorem dX8_make_25 : decode cX8_make 25 = .ok (.bipush 11, 2) := by decide +kernel
theorem dX8_make_27 : decode cX8_make 27 = .ok (.iload_n 1, 1) := by decide +kernel
theorem dX8_make_28 : decode cX8_make 28 = .ok (.imul, 1) := by decide +kernel
theorem dX8_make_29 : decode cX8_make 29 = .ok (.istore_n 1, 1) := by decide +kernel
theorem dX8_make_30 : decode cX8_make 30 = .ok (.iinc 2 1, 3) := by decide +kernel
theorem dX8_make_33 : decode cX8_make 33 = .ok (.goto (-16), 3) := by decide +kernel
theorem dX8_make_36 : decode cX8_make 36 = .ok (.iload_n 1, 1) := by decide +kernel
theorem dX8_make_37 : decode cX8_make 37 = .ok (.iconst 1, 1) := by decide +kernel
theorem dX8_make_38 : decode cX8_make 38 = .ok (.isub, 1) := by decide +kernel
theorem dX8_make_39 : decode cX8_make 39 = .ok (.istore_n 2, 1) := by decide +kernel
theorem dX8_make_40 : decode cX8_make 40 = .ok (.iload_n 2, 1) := by decide +kernel
theorem dX8_make_41 : decode cX8_make 41 = .ok (.ifCond .lt 14, 3) := by decide +kernel
theorem dX8_make_44 : decode cX8_make 44 = .ok (.aload_n 0, 1) := by decide +kernel
theorem dX8_make_45 : decode cX8_make 45 = .ok (.iload_n 2, 1) := by decide +kernel
theorem dX8_make_46 : decode cX8_make 46 = .ok (.invokevirtual 231, 3) := by decide +kernel
theorem dX8_make_49 : decode cX8_make 49 = .ok (.iinc 2 (-1), 3) := by decide +kernel
theorem dX8_make_52 : decode cX8_make 52 = .ok (.goto (-12), 3) := by decide +kernel
theorem dX8_make_55 : decode cX8_make 55 = .ok (.iconst 0, 1) := by decide +kernel
theorem dX8_make_56 : decode cX8_make 56 = .ok (.istore_n 2, 1) := by decide +kernel
theorem dX8_make_57 : decode cX8_make 57 = .ok (.iload_n 2, 1) := by decide +kernel
theorem dX8_make_58 : decode cX8_make 58 = .ok (.aload_n 0, 1) := by decide +kernel
theorem dX8_make_59 : decode cX8_make 59 = .ok (.getfield 173, 3) := by decide +kernel
theorem dX8_make_62 : decode cX8_make 62 = .ok (.if_icmp .ge 16, 3) := by decide +kernel
theorem dX8_make_65 : decode cX8_make 65 = .ok (.aload_n 0, 1) := by decide +kernel
theorem dX8_make_66 : decode cX8_make 66 = .ok (.getfield 95, 3) := by decide +kernel
theorem dX8_make_69 : decode cX8_make 69 = .ok (.iload_n 2, 1) := by decide +kernel
theorem dX8_make_70 : decode cX8_make 70 = .ok (.iconst 0, 1) := by decide +kernel
theorem dX8_make_71 : decode cX8_make 71 = .ok (.iastore, 1) := by decide +kernel
theorem dX8_make_72 : decode cX8_make 72 = .ok (.iinc 2 1, 3) := by decide +kernel
theorem dX8_make_75 : decode cX8_make 75 = .ok (.goto (-18), 3) := by decide +kernel
theorem dX8_make_78 : decode cX8_make 78 = .ok (.aload_n 0, 1) := by decide +kernel
theorem dX8_make_79 : decode cX8_make 79 = .ok (.iconst 0, 1) := by decide +kernel
theorem dX8_make_80 : decode cX8_make 80 = .ok (.putfield 235, 3) := by decide +kernel
theorem dX8_make_83 : decode cX8_make 83 = .ok (.iconst 0, 1) := by decide +kernel
theorem dX8_make_84 : decode cX8_make 84 = .ok (.istore_n 2, 1) := by decide +kernel
theorem dX8_make_85 : decode cX8_make 85 = .ok (.aload_n 0, 1) := by decide +kernel
theorem dX8_make_86 : decode cX8_make 86 = .ok (.getfield 173, 3) := by decide +kernel
theorem dX8_make_89 : decode cX8_make 89 = .ok (.ifCond .le 21, 3) := by decide +kernel
theorem dX8_make_92 : decode cX8_make 92 = .ok (.aload_n 0, 1) := by decide +kernel
theorem dX8_make_93 : decode cX8_make 93 = .ok (.getfield 92, 3) := by decide +kernel
theorem dX8_make_96 : decode cX8_make 96 = .ok (.iload_n 2, 1) := by decide +kernel
theorem dX8_make_97 : decode cX8_make 97 = .ok (.iaload, 1) := by decide +kernel
theorem dX8_make_98 : decode cX8_make 98 = .ok (.ifCond .le 12, 3) := by decide +kernel
theorem dX8_make_101 : decode cX8_make 101 = .ok (.aload_n 0, 1) := by decide +kernel
theorem dX8_make_102 : decode cX8_make 102 = .ok (.iload_n 2, 1) := by decide +kernel
theorem dX8_make_103 : decode cX8_make 103 = .ok (.invokevirtual 238, 3) := by decide +kernel
theorem dX8_make_106 : decode cX8_make 106 = .ok (.istore_n 2, 1) := by decide +kernel
theorem dX8_make_107 : decode cX8_make 107 = .ok (.goto (-22), 3) := by decide +kernel
theorem dX8_make_110 : decode cX8_make 110 = .ok (.aload_n 0, 1) := by decide +kernel
theorem dX8_make_111 : decode cX8_make 111 = .ok (.invokevirtual 242, 3) := by decide +kernel
theorem dX8_make_114 : decode cX8_make 114 = .ok (.return_, 1) := by decide +kernel
theorem dX8_weigh_0 : decode cX8_weigh 0 = .ok (.iload_n 1, 1) := by decide +kernel
theorem dX8_weigh_1 : decode cX8_weigh 1 = .ok (.istore_n 2, 1) := by decide +kernel
theorem dX8_weigh_2 : decode cX8_weigh 2 = .ok (.iconst 1, 1) := by decide +kernel
theorem dX8_weigh_3 : decode cX8_weigh 3 = .ok (.istore_n 3, 1) := by decide +kernel
theorem dX8_weigh_4 : decode cX8_weigh 4 = .ok (.iconst 1, 1) := by decide +kernel
theorem dX8_weigh_5 : decode cX8_weigh 5 = .ok (.istore 4, 2) := by decide +kernel
theorem dX8_weigh_7 : decode cX8_weigh 7 = .ok (.aload_n 0, 1) := by decide +kernel
theorem dX8_weigh_8 : decode cX8_weigh 8 = .ok (.getfield 173, 3) := by decide +kernel
theorem dX8_weigh_11 : decode cX8_weigh 11 = .ok (.iconst 1, 1) := by decide +kernel
theorem dX8_weigh_12 : decode cX8_weigh 12 = .ok (.isub, 1) := by decide +kernel
theorem dX8_weigh_13 : decode cX8_weigh 13 = .ok (.istore 5, 2) := by decide +kernel
theorem dX8_weigh_15 : decode cX8_weigh 15 = .ok (.iload 5, 2) := by decide +kernel
theorem dX8_weigh_17 : decode cX8_weigh 17 = .ok (.ifCond .lt 81, 3) := by decide +kernel
theorem dX8_weigh_20 : decode cX8_weigh 20 = .ok (.aload_n 0, 1) := by decide +kernel
theorem dX8_weigh_21 : decode cX8_weigh 21 = .ok (.getfield 95, 3) := by decide +kernel
theorem dX8_weigh_24 : decode cX8_weigh 24 = .ok (.iload 5, 2) := by decide +kernel
theorem dX8_weigh_26 : decode cX8_weigh 26 = .ok (.iload_n 2, 1) := by decide +kernel
theorem dX8_weigh_27 : decode cX8_weigh 27 = .ok (.bipush 11, 2) := by decide +kernel
theorem dX8_weigh_29 : decode cX8_weigh 29 = .ok (.irem, 1) := by decide +kernel
theorem dX8_weigh_30 : decode cX8_weigh 30 = .ok (.iastore, 1) := by decide +kernel
theorem dX8_weigh_31 : decode cX8_weigh 31 = .ok (.iload_n 2, 1) := by decide +kernel
theorem dX8_weigh_32 : decode cX8_weigh 32 = .ok (.bipush 11, 2) := by decide +kernel
theorem dX8_weigh_34 : decode cX8_weigh 34 = .ok (.idiv, 1) := by decide +kernel
theorem dX8_weigh_35 : decode cX8_weigh 35 = .ok (.istore_n 2, 1) := by decide +kernel
theorem dX8_weigh_36 : decode cX8_weigh 36 = .ok (.iload_n 3, 1) := by decide +kernel
theorem dX8_weigh_37 : decode cX8_weigh 37 = .ok (.ifCond .eq 24, 3) := by decide +kernel
theorem dX8_weigh_40 : decode cX8_weigh 40 = .ok (.aload_n 0, 1) := by decide +kernel
theorem dX8_weigh_41 : decode cX8_weigh 41 = .ok (.getfield 95, 3) := by decide +kernel
theorem dX8_weigh_44 : decode cX8_weigh 44 = .ok (.iload 5, 2) := by decide +kernel
theorem dX8_weigh_46 : decode cX8_weigh 46 = .ok (.iaload, 1) := by decide +kernel
theorem dX8_weigh_47 : decode cX8_weigh 47 = .ok (.aload_n 0, 1) := by decide +kernel
theorem dX8_weigh_48 : decode cX8_weigh 48 = .ok (.getfield 19, 3) := by decide +kernel
theorem dX8_weigh_51 : decode cX8_weigh 51 = .ok (.iload 5, 2) := by decide +kernel
theorem dX8_weigh_53 : decode cX8_weigh 53 = .ok (.iaload, 1) := by decide +kernel
theorem dX8_weigh_54 : decode cX8_weigh 54 = .ok (.if_icmp .gt 7, 3) := by decide +kernel
theorem dX8_weigh_57 : decode cX8_weigh 57 = .ok (.iconst 1, 1) := by decide +kernel
theorem dX8_weigh_58 : decode cX8_weigh 58 = .ok (.goto 4, 3) := by decide +kernel
theorem dX8_weigh_61 : decode cX8_weigh 61 = .ok (.iconst 0, 1) := by decide +kernel
theorem dX8_weigh_62 : decode cX8_weigh 62 = .ok (.istore_n 3, 1) := by decide +kernel
theorem dX8_weigh_63 : decode cX8_weigh 63 = .ok (.iload 4, 2) := by decide +kernel
theorem dX8_weigh_65 : decode cX8_weigh 65 = .ok (.ifCond .eq 24, 3) := by decide +kernel
theorem dX8_weigh_68 : decode cX8_weigh 68 = .ok (.aload_n 0, 1) := by decide +kernel
theorem dX8_weigh_69 : decode cX8_weigh 69 = .ok (.getfield 95, 3) := by decide +kernel
theorem dX8_weigh_72 : decode cX8_weigh 72 = .ok (.iload 5, 2) := by decide +kernel
theorem dX8_weigh_74 : decode cX8_weigh 74 = .ok (.iaload, 1) := by decide +kernel
theorem dX8_weigh_75 : decode cX8_weigh 75 = .ok (.aload_n 0, 1) := by decide +kernel
theorem dX8_weigh_76 : decode cX8_weigh 76 = .ok (.getfield 19, 3) := by decide +kernel
theorem dX8_weigh_79 : decode cX8_weigh 79 = .ok (.iload 5, 2) := by decide +kernel
theorem dX8_weigh_81 : decode cX8_weigh 81 = .ok (.iaload, 1) := by decide +kernel
theorem dX8_weigh_82 : decode cX8_weigh 82 = .ok (.if_icmp .ne 7, 3) := by decide +kernel
theorem dX8_weigh_85 : decode cX8_weigh 85 = .ok (.iconst 1, 1) := by decide +kernel
theorem dX8_weigh_86 : decode cX8_weigh 86 = .ok (.goto 4, 3) := by decide +kernel
theorem dX8_weigh_89 : decode cX8_weigh 89 = .ok (.iconst 0, 1) := by decide +kernel
theorem dX8_weigh_90 : decode cX8_weigh 90 = .ok (.istore 4, 2) := by decide +kernel
theorem dX8_weigh_92 : decode cX8_weigh 92 = .ok (.iinc 5 (-1), 3) := by decide +kernel
theorem dX8_weigh_95 : decode cX8_weigh 95 = .ok (.goto (-80), 3) := by decide +kernel
theorem dX8_weigh_98 : decode cX8_weigh 98 = .ok (.aload_n 0, 1) := by decide +kernel
theorem dX8_weigh_99 : decode cX8_weigh 99 = .ok (.getfield 92, 3) := by decide +kernel
theorem dX8_weigh_102 : decode cX8_weigh 102 = .ok (.iload_n 1, 1) := by decide +kernel
theorem dX8_weigh_103 : decode cX8_weigh 103 = .ok (.iconst 0, 1) := by decide +kernel
theorem dX8_weigh_104 : decode cX8_weigh 104 = .ok (.iastore, 1) := by decide +kernel
theorem dX8_weigh_105 : decode cX8_weigh 105 = .ok (.iload_n 3, 1) := by decide +kernel
theorem dX8_weigh_106 : decode cX8_weigh 106 = .ok (.ifCond .eq 8, 3) := by decide +kernel
theorem dX8_weigh_109 : decode cX8_weigh 109 = .ok (.iload 4, 2) := by decide +kernel
theorem dX8_weigh_111 : decode cX8_weigh 111 = .ok (.ifCond .eq 4, 3) := by decide +kernel
theorem dX8_weigh_114 : decode cX8_weigh 114 = .ok (.return_, 1) := by decide +kernel
theorem dX8_weigh_115 : decode cX8_weigh 115 = .ok (.bipush 99, 2) := by decide +kernel
theorem dX8_weigh_117 : decode cX8_weigh 117 = .ok (.istore 5, 2) := by decide +kernel
theorem dX8_weigh_119 : decode cX8_weigh 119 = .ok (.iconst 0, 1) := by decide +kernel
theorem dX8_weigh_120 : decode cX8_weigh 120 = .ok (.istore 6, 2) := by decide +kernel
theorem dX8_weigh_122 : decode cX8_weigh 122 = .ok (.iload 6, 2) := by decide +kernel
theorem dX8_weigh_124 : decode cX8_weigh 124 = .ok (.bipush 12, 2) := by decide +kernel
theorem dX8_weigh_126 : decode cX8_weigh 126 = .ok (.if_icmp .ge 54, 3) := by decide +kernel
theorem dX8_weigh_129 : decode cX8_weigh 129 = .ok (.aload_n 0, 1) := by decide +kernel
theorem dX8_weigh_130 : decode cX8_weigh 130 = .ok (.iload 6, 2) := by decide +kernel
theorem dX8_weigh_132 : decode cX8_weigh 132 = .ok (.invokevirtual 245, 3) := by decide +kernel
theorem dX8_weigh_135 : decode cX8_weigh 135 = .ok (.istore 7, 2) := by decide +kernel
theorem dX8_weigh_137 : decode cX8_weigh 137 = .ok (.aload_n 0, 1) := by decide +kernel
theorem dX8_weigh_138 : decode cX8_weigh 138 = .ok (.getfield 228, 3) := by decide +kernel
theorem dX8_weigh_141 : decode cX8_weigh 141 = .ok (.ifCond .eq 29, 3) := by decide +kernel
theorem dX8_weigh_144 : decode cX8_weigh 144 = .ok (.aload_n 0, 1) := by decide +kernel
theorem dX8_weigh_145 : decode cX8_weigh 145 = .ok (.getfield 92, 3) := by decide +kernel
theorem dX8_weigh_148 : decode cX8_weigh 148 = .ok (.iload 7, 2) := by decide +kernel
theorem dX8_weigh_150 : decode cX8_weigh 150 = .ok (.iaload, 1) := by decide +kernel
theorem dX8_weigh_151 : decode cX8_weigh 151 = .ok (.iconst 1, 1) := by decide +kernel
theorem dX8_weigh_152 : decode cX8_weigh 152 = .ok (.iadd, 1) := by decide +kernel
theorem dX8_weigh_153 : decode cX8_weigh 153 = .ok (.iload 5, 2) := by decide +kernel
theorem dX8_weigh_155 : decode cX8_weigh 155 = .ok (.if_icmp .ge 15, 3) := by decide +kernel
theorem dX8_weigh_158 : decode cX8_weigh 158 = .ok (.aload_n 0, 1) := by decide +kernel
theorem dX8_weigh_159 : decode cX8_weigh 159 = .ok (.getfield 92, 3) := by decide +kernel
theorem dX8_weigh_162 : decode cX8_weigh 162 = .ok (.iload 7, 2) := by decide +kernel
theorem dX8_weigh_164 : decode cX8_weigh 164 = .ok (.iaload, 1) := by decide +kernel
theorem dX8_weigh_165 : decode cX8_weigh 165 = .ok (.iconst 1, 1) := by decide +kernel
theorem dX8_weigh_166 : decode cX8_weigh 166 = .ok (.iadd, 1) := by decide +kernel
theorem dX8_weigh_167 : decode cX8_weigh 167 = .ok (.goto 5, 3) := by decide +kernel
theorem dX8_weigh_170 : decode cX8_weigh 170 = .ok (.iload 5, 2) := by decide +kernel
theorem dX8_weigh_172 : decode cX8_weigh 172 = .ok (.istore 5, 2) := by decide +kernel
theorem dX8_weigh_174 : decode cX8_weigh 174 = .ok (.iinc 6 1, 3) := by decide +kernel
theorem dX8_weigh_177 : decode cX8_weigh 177 = .ok (.goto (-55), 3) := by decide +kernel
theorem dX8_weigh_180 : decode cX8_weigh 180 = .ok (.aload_n 0, 1) := by decide +kernel
theorem dX8_weigh_181 : decode cX8_weigh 181 = .ok (.getfield 92, 3) := by decide +kernel
theorem dX8_weigh_184 : decode cX8_weigh 184 = .ok (.iload_n 1, 1) := by decide +kernel
theorem dX8_weigh_185 : decode cX8_weigh 185 = .ok (.iload 5, 2) := by decide +kernel
theorem dX8_weigh_187 : decode cX8_weigh 187 = .ok (.iastore, 1) := by decide +kernel
theorem dX8_weigh_188 : decode cX8_weigh 188 = .ok (.return_, 1) := by decide +kernel
theorem dX8_goOn_0 : decode cX8_goOn 0 = .ok (.iconst 0, 1) := by decide +kernel
theorem dX8_goOn_1 : decode cX8_goOn 1 = .ok (.istore_n 2, 1) := by decide +kernel
theorem dX8_goOn_2 : decode cX8_goOn 2 = .ok (.aload_n 0, 1) := by decide +kernel
theorem dX8_goOn_3 : decode cX8_goOn 3 = .ok (.iconst 0, 1) := by decide +kernel
theorem dX8_goOn_4 : decode cX8_goOn 4 = .ok (.invokevirtual 245, 3) := by decide +kernel
theorem dX8_goOn_7 : decode cX8_goOn 7 = .ok (.istore_n 3, 1) := by decide +kernel
theorem dX8_goOn_8 : decode cX8_goOn 8 = .ok (.aload_n 0, 1) := by decide +kernel
theorem dX8_goOn_9 : decode cX8_goOn 9 = .ok (.getfield 228, 3) := by decide +kernel
theorem dX8_goOn_12 : decode cX8_goOn 12 = .ok (.ifCond .eq 20, 3) := by decide +kernel
theorem dX8_goOn_15 : decode cX8_goOn 15 = .ok (.aload_n 0, 1) := by decide +kernel
theorem dX8_goOn_16 : decode cX8_goOn 16 = .ok (.getfield 92, 3) := by decide +kernel
theorem dX8_goOn_19 : decode cX8_goOn 19 = .ok (.iload_n 3, 1) := by decide +kernel
theorem dX8_goOn_20 : decode cX8_goOn 20 = .ok (.iaload, 1) := by decide +kernel
theorem dX8_goOn_21 : decode cX8_goOn 21 = .ok (.iconst 1, 1) := by decide +kernel
theorem dX8_goOn_22 : decode cX8_goOn 22 = .ok (.iadd, 1) := by decide +kernel
theorem dX8_goOn_23 : decode cX8_goOn 23 = .ok (.aload_n 0, 1) := by decide +kernel
theorem dX8_goOn_24 : decode cX8_goOn 24 = .ok (.getfield 92, 3) := by decide +kernel
theorem dX8_goOn_27 : decode cX8_goOn 27 = .ok (.iload_n 1, 1) := by decide +kernel
theorem dX8_goOn_28 : decode cX8_goOn 28 = .ok (.iaload, 1) := by decide +kernel
theorem dX8_goOn_29 : decode cX8_goOn 29 = .ok (.if_icmp .eq 15, 3) := by decide +kernel
theorem dX8_goOn_32 : decode cX8_goOn 32 = .ok (.iinc 2 1, 3) := by decide +kernel
theorem dX8_goOn_35 : decode cX8_goOn 35 = .ok (.aload_n 0, 1) := by decide +kernel
theorem dX8_goOn_36 : decode cX8_goOn 36 = .ok (.iload_n 2, 1) := by decide +kernel
theorem dX8_goOn_37 : decode cX8_goOn 37 = .ok (.invokevirtual 245, 3) := by decide +kernel
theorem dX8_goOn_40 : decode cX8_goOn 40 = .ok (.istore_n 3, 1) := by decide +kernel
theorem dX8_goOn_41 : decode cX8_goOn 41 = .ok (.goto (-33), 3) := by decide +kernel
theorem dX8_goOn_44 : decode cX8_goOn 44 = .ok (.aload_n 0, 1) := by decide +kernel
theorem dX8_goOn_45 : decode cX8_goOn 45 = .ok (.getfield 101, 3) := by decide +kernel
theorem dX8_goOn_48 : decode cX8_goOn 48 = .ok (.aload_n 0, 1) := by decide +kernel
theorem dX8_goOn_49 : decode cX8_goOn 49 = .ok (.getfield 235, 3) := by decide +kernel
theorem dX8_goOn_52 : decode cX8_goOn 52 = .ok (.iload_n 2, 1) := by decide +kernel
theorem dX8_goOn_53 : decode cX8_goOn 53 = .ok (.iastore, 1) := by decide +kernel
theorem dX8_goOn_54 : decode cX8_goOn 54 = .ok (.iconst 0, 1) := by decide +kernel
theorem dX8_goOn_55 : decode cX8_goOn 55 = .ok (.istore 4, 2) := by decide +kernel
theorem dX8_goOn_57 : decode cX8_goOn 57 = .ok (.iload 4, 2) := by decide +kernel
theorem dX8_goOn_59 : decode cX8_goOn 59 = .ok (.aload_n 0, 1) := by decide +kernel
theorem dX8_goOn_60 : decode cX8_goOn 60 = .ok (.getfield 173, 3) := by decide +kernel
theorem dX8_goOn_63 : decode cX8_goOn 63 = .ok (.if_icmp .ge 62, 3) := by decide +kernel
theorem dX8_goOn_66 : decode cX8_goOn 66 = .ok (.aload_n 0, 1) := by decide +kernel
theorem dX8_goOn_67 : decode cX8_goOn 67 = .ok (.getfield 98, 3) := by decide +kernel
theorem dX8_goOn_70 : decode cX8_goOn 70 = .ok (.iload 4, 2) := by decide +kernel
theorem dX8_goOn_72 : decode cX8_goOn 72 = .ok (.iaload, 1) := by decide +kernel
theorem dX8_goOn_73 : decode cX8_goOn 73 = .ok (.aload_n 0, 1) := by decide +kernel
theorem dX8_goOn_74 : decode cX8_goOn 74 = .ok (.getfield 95, 3) := by decide +kernel
theorem dX8_goOn_77 : decode cX8_goOn 77 = .ok (.iload 4, 2) := by decide +kernel
theorem dX8_goOn_79 : decode cX8_goOn 79 = .ok (.iaload, 1) := by decide +kernel
theorem dX8_goOn_80 : decode cX8_goOn 80 = .ok (.if_icmp .le 25, 3) := by decide +kernel
theorem dX8_goOn_83 : decode cX8_goOn 83 = .ok (.aload_n 0, 1) := by decide +kernel
theorem dX8_goOn_84 : decode cX8_goOn 84 = .ok (.getfield 104, 3) := by decide +kernel
theorem dX8_goOn_87 : decode cX8_goOn 87 = .ok (.bipush 10, 2) := by decide +kernel
theorem dX8_goOn_89 : decode cX8_goOn 89 = .ok (.iload 4, 2) := by decide +kernel
theorem dX8_goOn_91 : decode cX8_goOn 91 = .ok (.imul, 1) := by decide +kernel
theorem dX8_goOn_92 : decode cX8_goOn 92 = .ok (.aload_n 0, 1) := by decide +kernel
theorem dX8_goOn_93 : decode cX8_goOn 93 = .ok (.getfield 95, 3) := by decide +kernel
theorem dX8_goOn_96 : decode cX8_goOn 96 = .ok (.iload 4, 2) := by decide +kernel
theorem dX8_goOn_98 : decode cX8_goOn 98 = .ok (.iaload, 1) := by decide +kernel
theorem dX8_goOn_99 : decode cX8_goOn 99 = .ok (.iadd, 1) := by decide +kernel
theorem dX8_goOn_100 : decode cX8_goOn 100 = .ok (.aload_n 0, 1) := by decide +kernel
theorem dX8_goOn_101 : decode cX8_goOn 101 = .ok (.getfield 235, 3) := by decide +kernel
theorem dX8_goOn_104 : decode cX8_goOn 104 = .ok (.iastore, 1) := by decide +kernel
theorem dX8_goOn_105 : decode cX8_goOn 105 = .ok (.aload_n 0, 1) := by decide +kernel
theorem dX8_goOn_106 : decode cX8_goOn 106 = .ok (.getfield 95, 3) := by decide +kernel
theorem dX8_goOn_109 : decode cX8_goOn 109 = .ok (.iload 4, 2) := by decide +kernel
theorem dX8_goOn_111 : decode cX8_goOn 111 = .ok (.aload_n 0, 1) := by decide +kernel
theorem dX8_goOn_112 : decode cX8_goOn 112 = .ok (.getfield 98, 3) := by decide +kernel
theorem dX8_goOn_115 : decode cX8_goOn 115 = .ok (.iload 4, 2) := by decide +kernel
theorem dX8_goOn_117 : decode cX8_goOn 117 = .ok (.iaload, 1) := by decide +kernel
theorem dX8_goOn_118 : decode cX8_goOn 118 = .ok (.iastore, 1) := by decide +kernel
theorem dX8_goOn_119 : decode cX8_goOn 119 = .ok (.iinc 4 1, 3) := by decide +kernel
theorem dX8_goOn_122 : decode cX8_goOn 122 = .ok (.goto (-65), 3) := by decide +kernel
theorem dX8_goOn_125 : decode cX8_goOn 125 = .ok (.aload_n 0, 1) := by decide +kernel
theorem dX8_goOn_126 : decode cX8_goOn 126 = .ok (.dup, 1) := by decide +kernel
theorem dX8_goOn_127 : decode cX8_goOn 127 = .ok (.getfield 235, 3) := by decide +kernel
theorem dX8_goOn_130 : decode cX8_goOn 130 = .ok (.iconst 1, 1) := by decide +kernel
theorem dX8_goOn_131 : decode cX8_goOn 131 = .ok (.iadd, 1) := by decide +kernel
theorem dX8_goOn_132 : decode cX8_goOn 132 = .ok (.putfield 235, 3) := by decide +kernel
theorem dX8_goOn_135 : decode cX8_goOn 135 = .ok (.iload_n 3, 1) := by decide +kernel
theorem dX8_goOn_136 : decode cX8_goOn 136 = .ok (.ireturn, 1) := by decide +kernel
theorem dX8_hasPainting_0 : decode cX8_hasPainting 0 = .ok (.iconst 0, 1) := by decide +kernel
theorem dX8_hasPainting_1 : decode cX8_hasPainting 1 = .ok (.istore_n 3, 1) := by decide +kernel
theorem dX8_hasPainting_2 : decode cX8_hasPainting 2 = .ok (.iconst 0, 1) := by decide +kernel
theorem dX8_hasPainting_3 : decode cX8_hasPainting 3 = .ok (.istore 4, 2) := by decide +kernel
theorem dX8_hasPainting_5 : decode cX8_hasPainting 5 = .ok (.iload 4, 2) := by decide +kernel
theorem dX8_hasPainting_7 : decode cX8_hasPainting 7 = .ok (.aload_n 0, 1) := by decide +kernel
theorem dX8_hasPainting_8 : decode cX8_hasPainting 8 = .ok (.getfield 19, 3) := by decide +kernel
theorem dX8_hasPainting_11 : decode cX8_hasPainting 11 = .ok (.iload_n 1, 1) := by decide +kernel
theorem dX8_hasPainting_12 : decode cX8_hasPainting 12 = .ok (.iaload, 1) := by decide +kernel
theorem dX8_hasPainting_13 : decode cX8_hasPainting 13 = .ok (.if_icmp .ge 35, 3) := by decide +kernel
theorem dX8_hasPainting_16 : decode cX8_hasPainting 16 = .ok (.iload_n 3, 1) := by decide +kernel
theorem dX8_hasPainting_17 : decode cX8_hasPainting 17 = .ok (.ifCond .ne 19, 3) := by decide +kernel
theorem dX8_hasPainting_20 : decode cX8_hasPainting 20 = .ok (.aload_n 0, 1) := by decide +kernel
theorem dX8_hasPainting_21 : decode cX8_hasPainting 21 = .ok (.getfield 104, 3) := by decide +kernel
theorem dX8_hasPainting_24 : decode cX8_hasPainting 24 = .ok (.bipush 10, 2) := by decide +kernel
theorem dX8_hasPainting_26 : decode cX8_hasPainting 26 = .ok (.iload_n 1, 1) := by decide +kernel
theorem dX8_hasPainting_27 : decode cX8_hasPainting 27 = .ok (.imul, 1) := by decide +kernel
theorem dX8_hasPainting_28 : decode cX8_hasPainting 28 = .ok (.iload 4, 2) := by decide +kernel
theorem dX8_hasPainting_30 : decode cX8_hasPainting 30 = .ok (.iadd, 1) := by decide +kernel
theorem dX8_hasPainting_31 : decode cX8_hasPainting 31 = .ok (.iaload, 1) := by decide +kernel
theorem dX8_hasPainting_32 : decode cX8_hasPainting 32 = .ok (.iload_n 2, 1) := by decide +kernel
theorem dX8_hasPainting_33 : decode cX8_hasPainting 33 = .ok (.if_icmp .ne 7, 3) := by decide +kernel
theorem dX8_hasPainting_36 : decode cX8_hasPainting 36 = .ok (.iconst 1, 1) := by decide +kernel
theorem dX8_hasPainting_37 : decode cX8_hasPainting 37 = .ok (.goto 4, 3) := by decide +kernel
theorem dX8_hasPainting_40 : decode cX8_hasPainting 40 = .ok (.iconst 0, 1) := by decide +kernel
theorem dX8_hasPainting_41 : decode cX8_hasPainting 41 = .ok (.istore_n 3, 1) := by decide +kernel
theorem dX8_hasPainting_42 : decode cX8_hasPainting 42 = .ok (.iinc 4 1, 3) := by decide +kernel
theorem dX8_hasPainting_45 : decode cX8_hasPainting 45 = .ok (.goto (-40), 3) := by decide +kernel
theorem dX8_hasPainting_48 : decode cX8_hasPainting 48 = .ok (.iload_n 3, 1) := by decide +kernel
theorem dX8_hasPainting_49 : decode cX8_hasPainting 49 = .ok (.ireturn, 1) := by decide +kernel
theorem dX8_painting_0 : decode cX8_painting 0 = .ok (.aload_n 0, 1) := by decide +kernel
theorem dX8_painting_1 : decode cX8_painting 1 = .ok (.invokevirtual 205, 3) := by decide +kernel
theorem dX8_painting_4 : decode cX8_painting 4 = .ok (.iload_n 1, 1) := by decide +kernel
theorem dX8_painting_5 : decode cX8_painting 5 = .ok (.iconst (-1), 1) := by decide +kernel
theorem dX8_painting_6 : decode cX8_painting 6 = .ok (.aload_n 0, 1) := by decide +kernel
theorem dX8_painting_7 : decode cX8_painting 7 = .ok (.getfield 235, 3) := by decide +kernel
theorem dX8_painting_10 : decode cX8_painting 10 = .ok (.iconst 1, 1) := by decide +kernel
theorem dX8_painting_11 : decode cX8_painting 11 = .ok (.isub, 1) := by decide +kernel
theorem dX8_painting_12 : decode cX8_painting 12 = .ok (.invokestatic 116, 3) := by decide +kernel
theorem dX8_painting_15 : decode cX8_painting 15 = .ok (.ifCond .ne 5, 3) := by decide +kernel
theorem dX8_painting_18 : decode cX8_painting 18 = .ok (.iconst (-1), 1) := by decide +kernel
theorem dX8_painting_19 : decode cX8_painting 19 = .ok (.ireturn, 1) := by decide +kernel
theorem dX8_painting_20 : decode cX8_painting 20 = .ok (.iload_n 1, 1) := by decide +kernel
theorem dX8_painting_21 : decode cX8_painting 21 = .ok (.ifCond .ge 10, 3) := by decide +kernel
theorem dX8_painting_24 : decode cX8_painting 24 = .ok (.aload_n 0, 1) := by decide +kernel
theorem dX8_painting_25 : decode cX8_painting 25 = .ok (.getfield 235, 3) := by decide +kernel
theorem dX8_painting_28 : decode cX8_painting 28 = .ok (.goto 9, 3) := by decide +kernel
theorem dX8_painting_31 : decode cX8_painting 31 = .ok (.aload_n 0, 1) := by decide +kernel
theorem dX8_painting_32 : decode cX8_painting 32 = .ok (.getfield 101, 3) := by decide +kernel
theorem dX8_painting_35 : decode cX8_painting 35 = .ok (.iload_n 1, 1) := by decide +kernel
theorem dX8_painting_36 : decode cX8_painting 36 = .ok (.iaload, 1) := by decide +kernel
theorem dX8_painting_37 : decode cX8_painting 37 = .ok (.ireturn, 1) := by decide +kernel
theorem dX8_had_0 : decode cX8_had 0 = .ok (.aload_n 0, 1) := by decide +kernel
theorem dX8_had_1 : decode cX8_had 1 = .ok (.invokevirtual 205, 3) := by decide +kernel
theorem dX8_had_4 : decode cX8_had 4 = .ok (.iload_n 1, 1) := by decide +kernel
theorem dX8_had_5 : decode cX8_had 5 = .ok (.iconst 0, 1) := by decide +kernel
theorem dX8_had_6 : decode cX8_had 6 = .ok (.aload_n 0, 1) := by decide +kernel
theorem dX8_had_7 : decode cX8_had 7 = .ok (.getfield 235, 3) := by decide +kernel
theorem dX8_had_10 : decode cX8_had 10 = .ok (.iconst 1, 1) := by decide +kernel
theorem dX8_had_11 : decode cX8_had 11 = .ok (.isub, 1) := by decide +kernel
theorem dX8_had_12 : decode cX8_had 12 = .ok (.invokestatic 116, 3) := by decide +kernel
theorem dX8_had_15 : decode cX8_had 15 = .ok (.ifCond .ne 5, 3) := by decide +kernel
theorem dX8_had_18 : decode cX8_had 18 = .ok (.iconst (-1), 1) := by decide +kernel
theorem dX8_had_19 : decode cX8_had 19 = .ok (.ireturn, 1) := by decide +kernel
theorem dX8_had_20 : decode cX8_had 20 = .ok (.iconst 0, 1) := by decide +kernel
theorem dX8_had_21 : decode cX8_had 21 = .ok (.istore_n 2, 1) := by decide +kernel
theorem dX8_had_22 : decode cX8_had 22 = .ok (.iconst 0, 1) := by decide +kernel
theorem dX8_had_23 : decode cX8_had 23 = .ok (.istore_n 3, 1) := by decide +kernel
theorem dX8_had_24 : decode cX8_had 24 = .ok (.iload_n 3, 1) := by decide +kernel
theorem dX8_had_25 : decode cX8_had 25 = .ok (.aload_n 0, 1) := by decide +kernel
theorem dX8_had_26 : decode cX8_had 26 = .ok (.getfield 173, 3) := by decide +kernel
theorem dX8_had_29 : decode cX8_had 29 = .ok (.if_icmp .ge 28, 3) := by decide +kernel
theorem dX8_had_32 : decode cX8_had 32 = .ok (.aload_n 0, 1) := by decide +kernel
theorem dX8_had_33 : decode cX8_had 33 = .ok (.iload_n 3, 1) := by decide +kernel
theorem dX8_had_34 : decode cX8_had 34 = .ok (.iload_n 1, 1) := by decide +kernel
theorem dX8_had_35 : decode cX8_had 35 = .ok (.invokevirtual 248, 3) := by decide +kernel
theorem dX8_had_38 : decode cX8_had 38 = .ok (.ifCond .eq 11, 3) := by decide +kernel
theorem dX8_had_41 : decode cX8_had 41 = .ok (.iload_n 2, 1) := by decide +kernel
theorem dX8_had_42 : decode cX8_had 42 = .ok (.iconst 1, 1) := by decide +kernel
theorem dX8_had_43 : decode cX8_had 43 = .ok (.iload_n 3, 1) := by decide +kernel
theorem dX8_had_44 : decode cX8_had 44 = .ok (.ishl, 1) := by decide +kernel
theorem dX8_had_45 : decode cX8_had 45 = .ok (.ior, 1) := by decide +kernel
theorem dX8_had_46 : decode cX8_had 46 = .ok (.goto 4, 3) := by decide +kernel
theorem dX8_had_49 : decode cX8_had 49 = .ok (.iload_n 2, 1) := by decide +kernel
theorem dX8_had_50 : decode cX8_had 50 = .ok (.istore_n 2, 1) := by decide +kernel
theorem dX8_had_51 : decode cX8_had 51 = .ok (.iinc 3 1, 3) := by decide +kernel
theorem dX8_had_54 : decode cX8_had 54 = .ok (.goto (-30), 3) := by decide +kernel
theorem dX8_had_57 : decode cX8_had 57 = .ok (.iload_n 2, 1) := by decide +kernel
theorem dX8_had_58 : decode cX8_had 58 = .ok (.ireturn, 1) := by decide +kernel
theorem dX8_moved_0 : decode cX8_moved 0 = .ok (.iconst (-1), 1) := by decide +kernel
theorem dX8_moved_1 : decode cX8_moved 1 = .ok (.istore_n 2, 1) := by decide +kernel
theorem dX8_moved_2 : decode cX8_moved 2 = .ok (.bipush (-9), 2) := by decide +kernel
theorem dX8_moved_4 : decode cX8_moved 4 = .ok (.istore_n 3, 1) := by decide +kernel
theorem dX8_moved_5 : decode cX8_moved 5 = .ok (.iconst 0, 1) := by decide +kernel
theorem dX8_moved_6 : decode cX8_moved 6 = .ok (.istore 4, 2) := by decide +kernel
theorem dX8_moved_8 : decode cX8_moved 8 = .ok (.iload 4, 2) := by decide +kernel
theorem dX8_moved_10 : decode cX8_moved 10 = .ok (.aload_n 0, 1) := by decide +kernel
theorem dX8_moved_11 : decode cX8_moved 11 = .ok (.getfield 173, 3) := by decide +kernel
theorem dX8_moved_14 : decode cX8_moved 14 = .ok (.if_icmp .ge 70, 3) := by decide +kernel
theorem dX8_moved_17 : decode cX8_moved 17 = .ok (.iload 4, 2) := by decide +kernel
theorem dX8_moved_19 : decode cX8_moved 19 = .ok (.iload_n 1, 1) := by decide +kernel
theorem dX8_moved_20 : decode cX8_moved 20 = .ok (.if_icmp .ne 6, 3) := by decide +kernel
theorem dX8_moved_23 : decode cX8_moved 23 = .ok (.goto 55, 3) := by decide +kernel
theorem dX8_moved_26 : decode cX8_moved 26 = .ok (.aload_n 0, 1) := by decide +kernel
theorem dX8_moved_27 : decode cX8_moved 27 = .ok (.iload_n 1, 1) := by decide +kernel
theorem dX8_moved_28 : decode cX8_moved 28 = .ok (.iload 4, 2) := by decide +kernel
theorem dX8_moved_30 : decode cX8_moved 30 = .ok (.invokevirtual 251, 3) := by decide +kernel
theorem dX8_moved_33 : decode cX8_moved 33 = .ok (.istore 5, 2) := by decide +kernel
theorem dX8_moved_35 : decode cX8_moved 35 = .ok (.iload_n 2, 1) := by decide +kernel
theorem dX8_moved_36 : decode cX8_moved 36 = .ok (.ifCond .lt 31, 3) := by decide +kernel
theorem dX8_moved_39 : decode cX8_moved 39 = .ok (.iload 5, 2) := by decide +kernel
theorem dX8_moved_41 : decode cX8_moved 41 = .ok (.iload_n 2, 1) := by decide +kernel
theorem dX8_moved_42 : decode cX8_moved 42 = .ok (.if_icmp .lt 25, 3) := by decide +kernel
theorem dX8_moved_45 : decode cX8_moved 45 = .ok (.iload 5, 2) := by decide +kernel
theorem dX8_moved_47 : decode cX8_moved 47 = .ok (.iload_n 2, 1) := by decide +kernel
theorem dX8_moved_48 : decode cX8_moved 48 = .ok (.if_icmp .ne 30, 3) := by decide +kernel
theorem dX8_moved_51 : decode cX8_moved 51 = .ok (.aload_n 0, 1) := by decide +kernel
theorem dX8_moved_52 : decode cX8_moved 52 = .ok (.getfield 13, 3) := by decide +kernel
theorem dX8_moved_55 : decode cX8_moved 55 = .ok (.iload 4, 2) := by decide +kernel
theorem dX8_moved_57 : decode cX8_moved 57 = .ok (.iaload, 1) := by decide +kernel
theorem dX8_moved_58 : decode cX8_moved 58 = .ok (.aload_n 0, 1) := by decide +kernel
theorem dX8_moved_59 : decode cX8_moved 59 = .ok (.getfield 13, 3) := by decide +kernel
theorem dX8_moved_62 : decode cX8_moved 62 = .ok (.iload_n 1, 1) := by decide +kernel
theorem dX8_moved_63 : decode cX8_moved 63 = .ok (.iaload, 1) := by decide +kernel
theorem dX8_moved_64 : decode cX8_moved 64 = .ok (.if_icmp .ne 14, 3) := by decide +kernel
theorem dX8_moved_67 : decode cX8_moved 67 = .ok (.iload 5, 2) := by decide +kernel
theorem dX8_moved_69 : decode cX8_moved 69 = .ok (.istore_n 2, 1) := by decide +kernel
theorem dX8_moved_70 : decode cX8_moved 70 = .ok (.aload_n 0, 1) := by decide +kernel
theorem dX8_moved_71 : decode cX8_moved 71 = .ok (.getfield 13, 3) := by decide +kernel
theorem dX8_moved_74 : decode cX8_moved 74 = .ok (.iload 4, 2) := by decide +kernel
theorem dX8_moved_76 : decode cX8_moved 76 = .ok (.iaload, 1) := by decide +kernel
theorem dX8_moved_77 : decode cX8_moved 77 = .ok (.istore_n 3, 1) := by decide +kernel
theorem dX8_moved_78 : decode cX8_moved 78 = .ok (.iinc 4 1, 3) := by decide +kernel
theorem dX8_moved_81 : decode cX8_moved 81 = .ok (.goto (-73), 3) := by decide +kernel
theorem dX8_moved_84 : decode cX8_moved 84 = .ok (.iload_n 3, 1) := by decide +kernel
theorem dX8_moved_85 : decode cX8_moved 85 = .ok (.ireturn, 1) := by decide +kernel
theorem dX8_face_0 : decode cX8_face 0 = .ok (.aload_n 0, 1) := by decide +kernel
theorem dX8_face_1 : decode cX8_face 1 = .ok (.iload_n 1, 1) := by decide +kernel
theorem dX8_face_2 : decode cX8_face 2 = .ok (.invokevirtual 199, 3) := by decide +kernel
theorem dX8_face_5 : decode cX8_face 5 = .ok (.ifCond .eq 12, 3) := by decide +kernel
theorem dX8_face_8 : decode cX8_face 8 = .ok (.iload_n 2, 1) := by decide +kernel
theorem dX8_face_9 : decode cX8_face 9 = .ok (.iconst 0, 1) := by decide +kernel
theorem dX8_face_10 : decode cX8_face 10 = .ok (.iconst 3, 1) := by decide +kernel
theorem dX8_face_11 : decode cX8_face 11 = .ok (.invokestatic 116, 3) := by decide +kernel
theorem dX8_face_14 : decode cX8_face 14 = .ok (.ifCond .ne 5, 3) := by decide +kernel
theorem dX8_face_17 : decode cX8_face 17 = .ok (.iconst (-1), 1) := by decide +kernel
theorem dX8_face_18 : decode cX8_face 18 = .ok (.ireturn, 1) := by decide +kernel
theorem dX8_face_19 : decode cX8_face 19 = .ok (.aload_n 0, 1) := by decide +kernel
theorem dX8_face_20 : decode cX8_face 20 = .ok (.invokevirtual 205, 3) := by decide +kernel
theorem dX8_face_23 : decode cX8_face 23 = .ok (.aload_n 0, 1) := by decide +kernel
theorem dX8_face_24 : decode cX8_face 24 = .ok (.getfield 104, 3) := by decide +kernel
theorem dX8_face_27 : decode cX8_face 27 = .ok (.bipush 10, 2) := by decide +kernel
theorem dX8_face_29 : decode cX8_face 29 = .ok (.iload_n 1, 1) := by decide +kernel
theorem dX8_face_30 : decode cX8_face 30 = .ok (.imul, 1) := by decide +kernel
theorem dX8_face_31 : decode cX8_face 31 = .ok (.iaload, 1) := by decide +kernel
theorem dX8_face_32 : decode cX8_face 32 = .ok (.istore_n 3, 1) := by decide +kernel
theorem dX8_face_33 : decode cX8_face 33 = .ok (.aload_n 0, 1) := by decide +kernel
theorem dX8_face_34 : decode cX8_face 34 = .ok (.getfield 104, 3) := by decide +kernel
theorem dX8_face_37 : decode cX8_face 37 = .ok (.bipush 10, 2) := by decide +kernel
theorem dX8_face_39 : decode cX8_face 39 = .ok (.iload_n 1, 1) := by decide +kernel
theorem dX8_face_40 : decode cX8_face 40 = .ok (.imul, 1) := by decide +kernel
theorem dX8_face_41 : decode cX8_face 41 = .ok (.aload_n 0, 1) := by decide +kernel
theorem dX8_face_42 : decode cX8_face 42 = .ok (.getfield 19, 3) := by decide +kernel
theorem dX8_face_45 : decode cX8_face 45 = .ok (.iload_n 1, 1) := by decide +kernel
theorem dX8_face_46 : decode cX8_face 46 = .ok (.iaload, 1) := by decide +kernel
theorem dX8_face_47 : decode cX8_face 47 = .ok (.iadd, 1) := by decide +kernel
theorem dX8_face_48 : decode cX8_face 48 = .ok (.iconst 1, 1) := by decide +kernel
theorem dX8_face_49 : decode cX8_face 49 = .ok (.isub, 1) := by decide +kernel
theorem dX8_face_50 : decode cX8_face 50 = .ok (.iaload, 1) := by decide +kernel
theorem dX8_face_51 : decode cX8_face 51 = .ok (.istore 4, 2) := by decide +kernel
theorem dX8_face_53 : decode cX8_face 53 = .ok (.iload_n 2, 1) := by decide +kernel
theorem dX8_face_54 : decode cX8_face 54 = .ok (.ifCond .ne 17, 3) := by decide +kernel
theorem dX8_face_57 : decode cX8_face 57 = .ok (.iload 4, 2) := by decide +kernel
theorem dX8_face_59 : decode cX8_face 59 = .ok (.iload_n 3, 1) := by decide +kernel
theorem dX8_face_60 : decode cX8_face 60 = .ok (.isub, 1) := by decide +kernel
theorem dX8_face_61 : decode cX8_face 61 = .ok (.iconst 1, 1) := by decide +kernel
theorem dX8_face_62 : decode cX8_face 62 = .ok (.iadd, 1) := by decide +kernel
theorem dX8_face_63 : decode cX8_face 63 = .ok (.aload_n 0, 1) := by decide +kernel
theorem dX8_face_64 : decode cX8_face 64 = .ok (.getfield 19, 3) := by decide +kernel
theorem dX8_face_67 : decode cX8_face 67 = .ok (.iload_n 1, 1) := by decide +kernel
theorem dX8_face_68 : decode cX8_face 68 = .ok (.iaload, 1) := by decide +kernel
theorem dX8_face_69 : decode cX8_face 69 = .ok (.isub, 1) := by decide +kernel
theorem dX8_face_70 : decode cX8_face 70 = .ok (.ireturn, 1) := by decide +kernel
theorem dX8_face_71 : decode cX8_face 71 = .ok (.iload_n 2, 1) := by decide +kernel
theorem dX8_face_72 : decode cX8_face 72 = .ok (.iconst 1, 1) := by decide +kernel
theorem dX8_face_73 : decode cX8_face 73 = .ok (.if_icmp .ne 5, 3) := by decide +kernel
theorem dX8_face_76 : decode cX8_face 76 = .ok (.iload_n 3, 1) := by decide +kernel
theorem dX8_face_77 : decode cX8_face 77 = .ok (.ireturn, 1) := by decide +kernel
theorem dX8_face_78 : decode cX8_face 78 = .ok (.iload_n 2, 1) := by decide +kernel
theorem dX8_face_79 : decode cX8_face 79 = .ok (.iconst 2, 1) := by decide +kernel
theorem dX8_face_80 : decode cX8_face 80 = .ok (.if_icmp .ne 27, 3) := by decide +kernel
theorem dX8_face_83 : decode cX8_face 83 = .ok (.iload_n 3, 1) := by decide +kernel
theorem dX8_face_84 : decode cX8_face 84 = .ok (.ifCond .ne 7, 3) := by decide +kernel
theorem dX8_face_87 : decode cX8_face 87 = .ok (.iconst 0, 1) := by decide +kernel
theorem dX8_face_88 : decode cX8_face 88 = .ok (.goto 18, 3) := by decide +kernel
theorem dX8_face_91 : decode cX8_face 91 = .ok (.aload_n 0, 1) := by decide +kernel
theorem dX8_face_92 : decode cX8_face 92 = .ok (.getfield 16, 3) := by decide +kernel
theorem dX8_face_95 : decode cX8_face 95 = .ok (.iload_n 1, 1) := by decide +kernel
theorem dX8_face_96 : decode cX8_face 96 = .ok (.iaload, 1) := by decide +kernel
theorem dX8_face_97 : decode cX8_face 97 = .ok (.iconst 1, 1) := by decide +kernel
theorem dX8_face_98 : decode cX8_face 98 = .ok (.if_icmp .ne 7, 3) := by decide +kernel
theorem dX8_face_101 : decode cX8_face 101 = .ok (.iconst 1, 1) := by decide +kernel
theorem dX8_face_102 : decode cX8_face 102 = .ok (.goto 4, 3) := by decide +kernel
theorem dX8_face_105 : decode cX8_face 105 = .ok (.iconst 2, 1) := by decide +kernel
theorem dX8_face_106 : decode cX8_face 106 = .ok (.ireturn, 1) := by decide +kernel
theorem dX8_face_107 : decode cX8_face 107 = .ok (.aload_n 0, 1) := by decide +kernel
theorem dX8_face_108 : decode cX8_face 108 = .ok (.iload_n 1, 1) := by decide +kernel
theorem dX8_face_109 : decode cX8_face 109 = .ok (.invokevirtual 255, 3) := by decide +kernel
theorem dX8_face_112 : decode cX8_face 112 = .ok (.ireturn, 1) := by decide +kernel
theorem dX8_later_0 : decode cX8_later 0 = .ok (.iconst 0, 1) := by decide +kernel
theorem dX8_later_1 : decode cX8_later 1 = .ok (.istore_n 2, 1) := by decide +kernel
theorem dX8_later_2 : decode cX8_later 2 = .ok (.iconst 0, 1) := by decide +kernel
theorem dX8_later_3 : decode cX8_later 3 = .ok (.istore_n 3, 1) := by decide +kernel
theorem dX8_later_4 : decode cX8_later 4 = .ok (.iload_n 3, 1) := by decide +kernel
theorem dX8_later_5 : decode cX8_later 5 = .ok (.aload_n 0, 1) := by decide +kernel
theorem dX8_later_6 : decode cX8_later 6 = .ok (.getfield 173, 3) := by decide +kernel
theorem dX8_later_9 : decode cX8_later 9 = .ok (.if_icmp .ge 78, 3) := by decide +kernel
theorem dX8_later_12 : decode cX8_later 12 = .ok (.iconst 0, 1) := by decide +kernel
theorem dX8_later_13 : decode cX8_later 13 = .ok (.istore 4, 2) := by decide +kernel
theorem dX8_later_15 : decode cX8_later 15 = .ok (.iload 4, 2) := by decide +kernel
theorem dX8_later_17 : decode cX8_later 17 = .ok (.aload_n 0, 1) := by decide +kernel
theorem dX8_later_18 : decode cX8_later 18 = .ok (.getfield 19, 3) := by decide +kernel
theorem dX8_later_21 : decode cX8_later 21 = .ok (.iload_n 3, 1) := by decide +kernel
theorem dX8_later_22 : decode cX8_later 22 = .ok (.iaload, 1) := by decide +kernel
theorem dX8_later_23 : decode cX8_later 23 = .ok (.if_icmp .ge 58, 3) := by decide +kernel
theorem dX8_later_26 : decode cX8_later 26 = .ok (.aload_n 0, 1) := by decide +kernel
theorem dX8_later_27 : decode cX8_later 27 = .ok (.getfield 104, 3) := by decide +kernel
theorem dX8_later_30 : decode cX8_later 30 = .ok (.bipush 10, 2) := by decide +kernel
theorem dX8_later_32 : decode cX8_later 32 = .ok (.iload_n 3, 1) := by decide +kernel
theorem dX8_later_33 : decode cX8_later 33 = .ok (.imul, 1) := by decide +kernel
theorem dX8_later_34 : decode cX8_later 34 = .ok (.iload 4, 2) := by decide +kernel
theorem dX8_later_36 : decode cX8_later 36 = .ok (.iadd, 1) := by decide +kernel
theorem dX8_later_37 : decode cX8_later 37 = .ok (.iaload, 1) := by decide +kernel
theorem dX8_later_38 : decode cX8_later 38 = .ok (.iload_n 1, 1) := by decide +kernel
theorem dX8_later_39 : decode cX8_later 39 = .ok (.if_icmp .ne 34, 3) := by decide +kernel
theorem dX8_later_42 : decode cX8_later 42 = .ok (.aload_n 0, 1) := by decide +kernel
theorem dX8_later_43 : decode cX8_later 43 = .ok (.getfield 25, 3) := by decide +kernel
theorem dX8_later_46 : decode cX8_later 46 = .ok (.bipush 10, 2) := by decide +kernel
theorem dX8_later_48 : decode cX8_later 48 = .ok (.iload_n 3, 1) := by decide +kernel
theorem dX8_later_49 : decode cX8_later 49 = .ok (.imul, 1) := by decide +kernel
theorem dX8_later_50 : decode cX8_later 50 = .ok (.iload 4, 2) := by decide +kernel
theorem dX8_later_52 : decode cX8_later 52 = .ok (.iadd, 1) := by decide +kernel
theorem dX8_later_53 : decode cX8_later 53 = .ok (.iaload, 1) := by decide +kernel
theorem dX8_later_54 : decode cX8_later 54 = .ok (.iload_n 2, 1) := by decide +kernel
theorem dX8_later_55 : decode cX8_later 55 = .ok (.if_icmp .le 18, 3) := by decide +kernel
theorem dX8_later_58 : decode cX8_later 58 = .ok (.aload_n 0, 1) := by decide +kernel
theorem dX8_later_59 : decode cX8_later 59 = .ok (.getfield 25, 3) := by decide +kernel
theorem dX8_later_62 : decode cX8_later 62 = .ok (.bipush 10, 2) := by decide +kernel
theorem dX8_later_64 : decode cX8_later 64 = .ok (.iload_n 3, 1) := by decide +kernel
theorem dX8_later_65 : decode cX8_later 65 = .ok (.imul, 1) := by decide +kernel
theorem dX8_later_66 : decode cX8_later 66 = .ok (.iload 4, 2) := by decide +kernel
theorem dX8_later_68 : decode cX8_later 68 = .ok (.iadd, 1) := by decide +kernel
theorem dX8_later_69 : decode cX8_later 69 = .ok (.iaload, 1) := by decide +kernel
theorem dX8_later_70 : decode cX8_later 70 = .ok (.goto 4, 3) := by decide +kernel
theorem dX8_later_73 : decode cX8_later 73 = .ok (.iload_n 2, 1) := by decide +kernel
theorem dX8_later_74 : decode cX8_later 74 = .ok (.istore_n 2, 1) := by decide +kernel
theorem dX8_later_75 : decode cX8_later 75 = .ok (.iinc 4 1, 3) := by decide +kernel
theorem dX8_later_78 : decode cX8_later 78 = .ok (.goto (-63), 3) := by decide +kernel
theorem dX8_later_81 : decode cX8_later 81 = .ok (.iinc 3 1, 3) := by decide +kernel
theorem dX8_later_84 : decode cX8_later 84 = .ok (.goto (-80), 3) := by decide +kernel
theorem dX8_later_87 : decode cX8_later 87 = .ok (.aload_n 0, 1) := by decide +kernel
theorem dX8_later_88 : decode cX8_later 88 = .ok (.getfield 64, 3) := by decide +kernel
theorem dX8_later_91 : decode cX8_later 91 = .ok (.iconst 3, 1) := by decide +kernel
theorem dX8_later_92 : decode cX8_later 92 = .ok (.iaload, 1) := by decide +kernel
theorem dX8_later_93 : decode cX8_later 93 = .ok (.iload_n 2, 1) := by decide +kernel
theorem dX8_later_94 : decode cX8_later 94 = .ok (.imul, 1) := by decide +kernel
theorem dX8_later_95 : decode cX8_later 95 = .ok (.iconst 1, 1) := by decide +kernel
theorem dX8_later_96 : decode cX8_later 96 = .ok (.iadd, 1) := by decide +kernel
theorem dX8_later_97 : decode cX8_later 97 = .ok (.ireturn, 1) := by decide +kernel
theorem dX8_years_0 : decode cX8_years 0 = .ok (.aload_n 0, 1) := by decide +kernel
theorem dX8_years_1 : decode cX8_years 1 = .ok (.iconst 1, 1) := by decide +kernel
theorem dX8_years_2 : decode cX8_years 2 = .ok (.putfield 258, 3) := by decide +kernel
theorem dX8_years_5 : decode cX8_years 5 = .ok (.iconst 0, 1) := by decide +kernel
theorem dX8_years_6 : decode cX8_years 6 = .ok (.istore_n 1, 1) := by decide +kernel
theorem dX8_years_7 : decode cX8_years 7 = .ok (.iload_n 1, 1) := by decide +kernel
theorem dX8_years_8 : decode cX8_years 8 = .ok (.aload_n 0, 1) := by decide +kernel
theorem dX8_years_9 : decode cX8_years 9 = .ok (.getfield 235, 3) := by decide +kernel
theorem dX8_years_12 : decode cX8_years 12 = .ok (.if_icmp .ge 106, 3) := by decide +kernel
theorem dX8_years_15 : decode cX8_years 15 = .ok (.iload_n 1, 1) := by decide +kernel
theorem dX8_years_16 : decode cX8_years 16 = .ok (.ifCond .ne 7, 3) := by decide +kernel
theorem dX8_years_19 : decode cX8_years 19 = .ok (.iconst 0, 1) := by decide +kernel
theorem dX8_years_20 : decode cX8_years 20 = .ok (.goto 19, 3) := by decide +kernel
theorem dX8_years_23 : decode cX8_years 23 = .ok (.aload_n 0, 1) := by decide +kernel
theorem dX8_years_24 : decode cX8_years 24 = .ok (.getfield 107, 3) := by decide +kernel
theorem dX8_years_27 : decode cX8_years 27 = .ok (.iload_n 1, 1) := by decide +kernel
theorem dX8_years_28 : decode cX8_years 28 = .ok (.iconst 1, 1) := by decide +kernel
theorem dX8_years_29 : decode cX8_years 29 = .ok (.isub, 1) := by decide +kernel
theorem dX8_years_30 : decode cX8_years 30 = .ok (.iaload, 1) := by decide +kernel
theorem dX8_years_31 : decode cX8_years 31 = .ok (.aload_n 0, 1) := by decide +kernel
theorem dX8_years_32 : decode cX8_years 32 = .ok (.iload_n 1, 1) := by decide +kernel
theorem dX8_years_33 : decode cX8_years 33 = .ok (.iconst 1, 1) := by decide +kernel
theorem dX8_years_34 : decode cX8_years 34 = .ok (.isub, 1) := by decide +kernel
theorem dX8_years_35 : decode cX8_years 35 = .ok (.invokevirtual 261, 3) := by decide +kernel
theorem dX8_years_38 : decode cX8_years 38 = .ok (.iadd, 1) := by decide +kernel
theorem dX8_years_39 : decode cX8_years 39 = .ok (.istore_n 2, 1) := by decide +kernel
theorem dX8_years_40 : decode cX8_years 40 = .ok (.aload_n 0, 1) := by decide +kernel
theorem dX8_years_41 : decode cX8_years 41 = .ok (.getfield 107, 3) := by decide +kernel
theorem dX8_years_44 : decode cX8_years 44 = .ok (.iload_n 1, 1) := by decide +kernel
theorem dX8_years_45 : decode cX8_years 45 = .ok (.iload_n 2, 1) := by decide +kernel
theorem dX8_years_46 : decode cX8_years 46 = .ok (.aload_n 0, 1) := by decide +kernel
theorem dX8_years_47 : decode cX8_years 47 = .ok (.getfield 34, 3) := by decide +kernel
theorem dX8_years_50 : decode cX8_years 50 = .ok (.aload_n 0, 1) := by decide +kernel
theorem dX8_years_51 : decode cX8_years 51 = .ok (.getfield 101, 3) := by decide +kernel
theorem dX8_years_54 : decode cX8_years 54 = .ok (.iload_n 1, 1) := by decide +kernel
theorem dX8_years_55 : decode cX8_years 55 = .ok (.iaload, 1) := by decide +kernel
theorem dX8_years_56 : decode cX8_years 56 = .ok (.iaload, 1) := by decide +kernel
theorem dX8_years_57 : decode cX8_years 57 = .ok (.if_icmp .le 7, 3) := by decide +kernel
theorem dX8_years_60 : decode cX8_years 60 = .ok (.iload_n 2, 1) := by decide +kernel
theorem dX8_years_61 : decode cX8_years 61 = .ok (.goto 14, 3) := by decide +kernel
theorem dX8_years_64 : decode cX8_years 64 = .ok (.aload_n 0, 1) := by decide +kernel
theorem dX8_years_65 : decode cX8_years 65 = .ok (.getfield 34, 3) := by decide +kernel
theorem dX8_years_68 : decode cX8_years 68 = .ok (.aload_n 0, 1) := by decide +kernel
theorem dX8_years_69 : decode cX8_years 69 = .ok (.getfield 101, 3) := by decide +kernel
theorem dX8_years_72 : decode cX8_years 72 = .ok (.iload_n 1, 1) := by decide +kernel
theorem dX8_years_73 : decode cX8_years 73 = .ok (.iaload, 1) := by decide +kernel
theorem dX8_years_74 : decode cX8_years 74 = .ok (.iaload, 1) := by decide +kernel
theorem dX8_years_75 : decode cX8_years 75 = .ok (.iastore, 1) := by decide +kernel
theorem dX8_years_76 : decode cX8_years 76 = .ok (.aload_n 0, 1) := by decide +kernel
theorem dX8_years_77 : decode cX8_years 77 = .ok (.aload_n 0, 1) := by decide +kernel
theorem dX8_years_78 : decode cX8_years 78 = .ok (.getfield 258, 3) := by decide +kernel
theorem dX8_years_81 : decode cX8_years 81 = .ok (.ifCond .eq 27, 3) := by decide +kernel
theorem dX8_years_84 : decode cX8_years 84 = .ok (.aload_n 0, 1) := by decide +kernel
theorem dX8_years_85 : decode cX8_years 85 = .ok (.getfield 107, 3) := by decide +kernel
theorem dX8_years_88 : decode cX8_years 88 = .ok (.iload_n 1, 1) := by decide +kernel
theorem dX8_years_89 : decode cX8_years 89 = .ok (.iaload, 1) := by decide +kernel
theorem dX8_years_90 : decode cX8_years 90 = .ok (.aload_n 0, 1) := by decide +kernel
theorem dX8_years_91 : decode cX8_years 91 = .ok (.getfield 37, 3) := by decide +kernel
theorem dX8_years_94 : decode cX8_years 94 = .ok (.aload_n 0, 1) := by decide +kernel
theorem dX8_years_95 : decode cX8_years 95 = .ok (.getfield 101, 3) := by decide +kernel
theorem dX8_years_98 : decode cX8_years 98 = .ok (.iload_n 1, 1) := by decide +kernel
theorem dX8_years_99 : decode cX8_years 99 = .ok (.iaload, 1) := by decide +kernel
theorem dX8_years_100 : decode cX8_years 100 = .ok (.iaload, 1) := by decide +kernel
theorem dX8_years_101 : decode cX8_years 101 = .ok (.if_icmp .gt 7, 3) := by decide +kernel
theorem dX8_years_104 : decode cX8_years 104 = .ok (.iconst 1, 1) := by decide +kernel
theorem dX8_years_105 : decode cX8_years 105 = .ok (.goto 4, 3) := by decide +kernel
theorem dX8_years_108 : decode cX8_years 108 = .ok (.iconst 0, 1) := by decide +kernel
theorem dX8_years_109 : decode cX8_years 109 = .ok (.putfield 258, 3) := by decide +kernel
theorem dX8_years_112 : decode cX8_years 112 = .ok (.iinc 1 1, 3) := by decide +kernel
theorem dX8_years_115 : decode cX8_years 115 = .ok (.goto (-108), 3) := by decide +kernel
theorem dX8_years_118 : decode cX8_years 118 = .ok (.aload_n 0, 1) := by decide +kernel
theorem dX8_years_119 : decode cX8_years 119 = .ok (.getfield 235, 3) := by decide +kernel
theorem dX8_years_122 : decode cX8_years 122 = .ok (.iconst 1, 1) := by decide +kernel
theorem dX8_years_123 : decode cX8_years 123 = .ok (.isub, 1) := by decide +kernel
theorem dX8_years_124 : decode cX8_years 124 = .ok (.istore_n 1, 1) := by decide +kernel
theorem dX8_years_125 : decode cX8_years 125 = .ok (.iload_n 1, 1) := by decide +kernel
theorem dX8_years_126 : decode cX8_years 126 = .ok (.ifCond .lt 76, 3) := by decide +kernel
theorem dX8_years_129 : decode cX8_years 129 = .ok (.iload_n 1, 1) := by decide +kernel
theorem dX8_years_130 : decode cX8_years 130 = .ok (.aload_n 0, 1) := by decide +kernel
theorem dX8_years_131 : decode cX8_years 131 = .ok (.getfield 235, 3) := by decide +kernel
theorem dX8_years_134 : decode cX8_years 134 = .ok (.iconst 1, 1) := by decide +kernel
theorem dX8_years_135 : decode cX8_years 135 = .ok (.isub, 1) := by decide +kernel
theorem dX8_years_136 : decode cX8_years 136 = .ok (.if_icmp .ne 9, 3) := by decide +kernel
theorem dX8_years_139 : decode cX8_years 139 = .ok (.sipush 999, 3) := by decide +kernel
theorem dX8_years_142 : decode cX8_years 142 = .ok (.goto 17, 3) := by decide +kernel
theorem dX8_years_145 : decode cX8_years 145 = .ok (.aload_n 0, 1) := by decide +kernel
theorem dX8_years_146 : decode cX8_years 146 = .ok (.getfield 110, 3) := by decide +kernel
theorem dX8_years_149 : decode cX8_years 149 = .ok (.iload_n 1, 1) := by decide +kernel
theorem dX8_years_150 : decode cX8_years 150 = .ok (.iconst 1, 1) := by decide +kernel
theorem dX8_years_151 : decode cX8_years 151 = .ok (.iadd, 1) := by decide +kernel
theorem dX8_years_152 : decode cX8_years 152 = .ok (.iaload, 1) := by decide +kernel
theorem dX8_years_153 : decode cX8_years 153 = .ok (.aload_n 0, 1) := by decide +kernel
theorem dX8_years_154 : decode cX8_years 154 = .ok (.iload_n 1, 1) := by decide +kernel
theorem dX8_years_155 : decode cX8_years 155 = .ok (.invokevirtual 261, 3) := by decide +kernel
theorem dX8_years_158 : decode cX8_years 158 = .ok (.isub, 1) := by decide +kernel
theorem dX8_years_159 : decode cX8_years 159 = .ok (.istore_n 2, 1) := by decide +kernel
theorem dX8_years_160 : decode cX8_years 160 = .ok (.aload_n 0, 1) := by decide +kernel
theorem dX8_years_161 : decode cX8_years 161 = .ok (.getfield 110, 3) := by decide +kernel
theorem dX8_years_164 : decode cX8_years 164 = .ok (.iload_n 1, 1) := by decide +kernel
theorem dX8_years_165 : decode cX8_years 165 = .ok (.iload_n 2, 1) := by decide +kernel
theorem dX8_years_166 : decode cX8_years 166 = .ok (.aload_n 0, 1) := by decide +kernel
theorem dX8_years_167 : decode cX8_years 167 = .ok (.getfield 37, 3) := by decide +kernel
theorem dX8_years_170 : decode cX8_years 170 = .ok (.aload_n 0, 1) := by decide +kernel
theorem dX8_years_171 : decode cX8_years 171 = .ok (.getfield 101, 3) := by decide +kernel
theorem dX8_years_174 : decode cX8_years 174 = .ok (.iload_n 1, 1) := by decide +kernel
theorem dX8_years_175 : decode cX8_years 175 = .ok (.iaload, 1) := by decide +kernel
theorem dX8_years_176 : decode cX8_years 176 = .ok (.iaload, 1) := by decide +kernel
theorem dX8_years_177 : decode cX8_years 177 = .ok (.if_icmp .ge 7, 3) := by decide +kernel
theorem dX8_years_180 : decode cX8_years 180 = .ok (.iload_n 2, 1) := by decide +kernel
theorem dX8_years_181 : decode cX8_years 181 = .ok (.goto 14, 3) := by decide +kernel
theorem dX8_years_184 : decode cX8_years 184 = .ok (.aload_n 0, 1) := by decide +kernel
theorem dX8_years_185 : decode cX8_years 185 = .ok (.getfield 37, 3) := by decide +kernel
theorem dX8_years_188 : decode cX8_years 188 = .ok (.aload_n 0, 1) := by decide +kernel
theorem dX8_years_189 : decode cX8_years 189 = .ok (.getfield 101, 3) := by decide +kernel
theorem dX8_years_192 : decode cX8_years 192 = .ok (.iload_n 1, 1) := by decide +kernel
theorem dX8_years_193 : decode cX8_years 193 = .ok (.iaload, 1) := by decide +kernel
theorem dX8_years_194 : decode cX8_years 194 = .ok (.iaload, 1) := by decide +kernel
theorem dX8_years_195 : decode cX8_years 195 = .ok (.iastore, 1) := by decide +kernel
theorem dX8_years_196 : decode cX8_years 196 = .ok (.iinc 1 (-1), 3) := by decide +kernel
theorem dX8_years_199 : decode cX8_years 199 = .ok (.goto (-74), 3) := by decide +kernel
theorem dX8_years_202 : decode cX8_years 202 = .ok (.return_, 1) := by decide +kernel
theorem dX8_span_0 : decode cX8_span 0 = .ok (.aload_n 0, 1) := by decide +kernel
theorem dX8_span_1 : decode cX8_span 1 = .ok (.invokevirtual 205, 3) := by decide +kernel
theorem dX8_span_4 : decode cX8_span 4 = .ok (.iload_n 1, 1) := by decide +kernel
theorem dX8_span_5 : decode cX8_span 5 = .ok (.iconst 0, 1) := by decide +kernel
theorem dX8_span_6 : decode cX8_span 6 = .ok (.aload_n 0, 1) := by decide +kernel
theorem dX8_span_7 : decode cX8_span 7 = .ok (.getfield 235, 3) := by decide +kernel
theorem dX8_span_10 : decode cX8_span 10 = .ok (.iconst 1, 1) := by decide +kernel
theorem dX8_span_11 : decode cX8_span 11 = .ok (.isub, 1) := by decide +kernel
theorem dX8_span_12 : decode cX8_span 12 = .ok (.invokestatic 116, 3) := by decide +kernel
theorem dX8_span_15 : decode cX8_span 15 = .ok (.ifCond .eq 12, 3) := by decide +kernel
theorem dX8_span_18 : decode cX8_span 18 = .ok (.iload_n 2, 1) := by decide +kernel
theorem dX8_span_19 : decode cX8_span 19 = .ok (.iconst 0, 1) := by decide +kernel
theorem dX8_span_20 : decode cX8_span 20 = .ok (.iconst 1, 1) := by decide +kernel
theorem dX8_span_21 : decode cX8_span 21 = .ok (.invokestatic 116, 3) := by decide +kernel
theorem dX8_span_24 : decode cX8_span 24 = .ok (.ifCond .ne 5, 3) := by decide +kernel
theorem dX8_span_27 : decode cX8_span 27 = .ok (.iconst (-1), 1) := by decide +kernel
theorem dX8_span_28 : decode cX8_span 28 = .ok (.ireturn, 1) := by decide +kernel
theorem dX8_span_29 : decode cX8_span 29 = .ok (.aload_n 0, 1) := by decide +kernel
theorem dX8_span_30 : decode cX8_span 30 = .ok (.getfield 258, 3) := by decide +kernel
theorem dX8_span_33 : decode cX8_span 33 = .ok (.ifCond .ne 8, 3) := by decide +kernel
theorem dX8_span_36 : decode cX8_span 36 = .ok (.bipush (-9), 2) := by decide +kernel
theorem dX8_span_38 : decode cX8_span 38 = .ok (.goto 22, 3) := by decide +kernel
theorem dX8_span_41 : decode cX8_span 41 = .ok (.iload_n 2, 1) := by decide +kernel
theorem dX8_span_42 : decode cX8_span 42 = .ok (.ifCond .ne 12, 3) := by decide +kernel
theorem dX8_span_45 : decode cX8_span 45 = .ok (.aload_n 0, 1) := by decide +kernel
theorem dX8_span_46 : decode cX8_span 46 = .ok (.getfield 107, 3) := by decide +kernel
theorem dX8_span_49 : decode cX8_span 49 = .ok (.iload_n 1, 1) := by decide +kernel
theorem dX8_span_50 : decode cX8_span 50 = .ok (.iaload, 1) := by decide +kernel
theorem dX8_span_51 : decode cX8_span 51 = .ok (.goto 9, 3) := by decide +kernel
theorem dX8_span_54 : decode cX8_span 54 = .ok (.aload_n 0, 1) := by decide +kernel
theorem dX8_span_55 : decode cX8_span 55 = .ok (.getfield 110, 3) := by decide +kernel
theorem dX8_span_58 : decode cX8_span 58 = .ok (.iload_n 1, 1) := by decide +kernel
theorem dX8_span_59 : decode cX8_span 59 = .ok (.iaload, 1) := by decide +kernel
theorem dX8_span_60 : decode cX8_span 60 = .ok (.ireturn, 1) := by decide +kernel
theorem dX8_day_0 : decode cX8_day 0 = .ok (.aload_n 0, 1) := by decide +kernel
theorem dX8_day_1 : decode cX8_day 1 = .ok (.iload_n 1, 1) := by decide +kernel
theorem dX8_day_2 : decode cX8_day 2 = .ok (.invokevirtual 199, 3) := by decide +kernel
theorem dX8_day_5 : decode cX8_day 5 = .ok (.ifCond .eq 14, 3) := by decide +kernel
theorem dX8_day_8 : decode cX8_day 8 = .ok (.iload_n 2, 1) := by decide +kernel
theorem dX8_day_9 : decode cX8_day 9 = .ok (.iconst 0, 1) := by decide +kernel
theorem dX8_day_10 : decode cX8_day 10 = .ok (.sipush 999, 3) := by decide +kernel
theorem dX8_day_13 : decode cX8_day 13 = .ok (.invokestatic 116, 3) := by decide +kernel
theorem dX8_day_16 : decode cX8_day 16 = .ok (.ifCond .ne 5, 3) := by decide +kernel
theorem dX8_day_19 : decode cX8_day 19 = .ok (.iconst (-1), 1) := by decide +kernel
theorem dX8_day_20 : decode cX8_day 20 = .ok (.ireturn, 1) := by decide +kernel
theorem dX8_day_21 : decode cX8_day 21 = .ok (.aload_n 0, 1) := by decide +kernel
theorem dX8_day_22 : decode cX8_day 22 = .ok (.invokevirtual 205, 3) := by decide +kernel
theorem dX8_day_25 : decode cX8_day 25 = .ok (.aload_n 0, 1) := by decide +kernel
theorem dX8_day_26 : decode cX8_day 26 = .ok (.getfield 258, 3) := by decide +kernel
theorem dX8_day_29 : decode cX8_day 29 = .ok (.ifCond .ne 5, 3) := by decide +kernel
theorem dX8_day_32 : decode cX8_day 32 = .ok (.iconst 0, 1) := by decide +kernel
theorem dX8_day_33 : decode cX8_day 33 = .ok (.ireturn, 1) := by decide +kernel
theorem dX8_day_34 : decode cX8_day 34 = .ok (.aload_n 0, 1) := by decide +kernel
theorem dX8_day_35 : decode cX8_day 35 = .ok (.getfield 110, 3) := by decide +kernel
theorem dX8_day_38 : decode cX8_day 38 = .ok (.aload_n 0, 1) := by decide +kernel
theorem dX8_day_39 : decode cX8_day 39 = .ok (.getfield 104, 3) := by decide +kernel
theorem dX8_day_42 : decode cX8_day 42 = .ok (.bipush 10, 2) := by decide +kernel
theorem dX8_day_44 : decode cX8_day 44 = .ok (.iload_n 1, 1) := by decide +kernel
theorem dX8_day_45 : decode cX8_day 45 = .ok (.imul, 1) := by decide +kernel
theorem dX8_day_46 : decode cX8_day 46 = .ok (.iaload, 1) := by decide +kernel
theorem dX8_day_47 : decode cX8_day 47 = .ok (.iaload, 1) := by decide +kernel
theorem dX8_day_48 : decode cX8_day 48 = .ok (.iload_n 2, 1) := by decide +kernel
theorem dX8_day_49 : decode cX8_day 49 = .ok (.if_icmp .le 9, 3) := by decide +kernel
theorem dX8_day_52 : decode cX8_day 52 = .ok (.sipush 1024, 3) := by decide +kernel
theorem dX8_day_55 : decode cX8_day 55 = .ok (.goto 4, 3) := by decide +kernel
theorem dX8_day_58 : decode cX8_day 58 = .ok (.iconst 0, 1) := by decide +kernel
theorem dX8_day_59 : decode cX8_day 59 = .ok (.istore_n 3, 1) := by decide +kernel
theorem dX8_day_60 : decode cX8_day 60 = .ok (.iconst 0, 1) := by decide +kernel
theorem dX8_day_61 : decode cX8_day 61 = .ok (.istore 4, 2) := by decide +kernel
theorem dX8_day_63 : decode cX8_day 63 = .ok (.iload 4, 2) := by decide +kernel
theorem dX8_day_65 : decode cX8_day 65 = .ok (.aload_n 0, 1) := by decide +kernel
theorem dX8_day_66 : decode cX8_day 66 = .ok (.getfield 19, 3) := by decide +kernel
theorem dX8_day_69 : decode cX8_day 69 = .ok (.iload_n 1, 1) := by decide +kernel
theorem dX8_day_70 : decode cX8_day 70 = .ok (.iaload, 1) := by decide +kernel
theorem dX8_day_71 : decode cX8_day 71 = .ok (.if_icmp .ge 89, 3) := by decide +kernel
theorem dX8_day_74 : decode cX8_day 74 = .ok (.aload_n 0, 1) := by decide +kernel
theorem dX8_day_75 : decode cX8_day 75 = .ok (.getfield 107, 3) := by decide +kernel
theorem dX8_day_78 : decode cX8_day 78 = .ok (.aload_n 0, 1) := by decide +kernel
theorem dX8_day_79 : decode cX8_day 79 = .ok (.getfield 104, 3) := by decide +kernel
theorem dX8_day_82 : decode cX8_day 82 = .ok (.bipush 10, 2) := by decide +kernel
theorem dX8_day_84 : decode cX8_day 84 = .ok (.iload_n 1, 1) := by decide +kernel
theorem dX8_day_85 : decode cX8_day 85 = .ok (.imul, 1) := by decide +kernel
theorem dX8_day_86 : decode cX8_day 86 = .ok (.iload 4, 2) := by decide +kernel
theorem dX8_day_88 : decode cX8_day 88 = .ok (.iadd, 1) := by decide +kernel
theorem dX8_day_89 : decode cX8_day 89 = .ok (.iaload, 1) := by decide +kernel
theorem dX8_day_90 : decode cX8_day 90 = .ok (.iaload, 1) := by decide +kernel
theorem dX8_day_91 : decode cX8_day 91 = .ok (.iload_n 2, 1) := by decide +kernel
theorem dX8_day_92 : decode cX8_day 92 = .ok (.if_icmp .gt 43, 3) := by decide +kernel
theorem dX8_day_95 : decode cX8_day 95 = .ok (.iload 4, 2) := by decide +kernel
theorem dX8_day_97 : decode cX8_day 97 = .ok (.aload_n 0, 1) := by decide +kernel
theorem dX8_day_98 : decode cX8_day 98 = .ok (.getfield 19, 3) := by decide +kernel
theorem dX8_day_101 : decode cX8_day 101 = .ok (.iload_n 1, 1) := by decide +kernel
theorem dX8_day_102 : decode cX8_day 102 = .ok (.iaload, 1) := by decide +kernel
theorem dX8_day_103 : decode cX8_day 103 = .ok (.iconst 1, 1) := by decide +kernel
theorem dX8_day_104 : decode cX8_day 104 = .ok (.isub, 1) := by decide +kernel
theorem dX8_day_105 : decode cX8_day 105 = .ok (.if_icmp .eq 26, 3) := by decide +kernel
theorem dX8_day_108 : decode cX8_day 108 = .ok (.aload_n 0, 1) := by decide +kernel
theorem dX8_day_109 : decode cX8_day 109 = .ok (.getfield 110, 3) := by decide +kernel
theorem dX8_day_112 : decode cX8_day 112 = .ok (.aload_n 0, 1) := by decide +kernel
theorem dX8_day_113 : decode cX8_day 113 = .ok (.getfield 104, 3) := by decide +kernel
theorem dX8_day_116 : decode cX8_day 116 = .ok (.bipush 10, 2) := by decide +kernel
theorem dX8_day_118 : decode cX8_day 118 = .ok (.iload_n 1, 1) := by decide +kernel
theorem dX8_day_119 : decode cX8_day 119 = .ok (.imul, 1) := by decide +kernel
theorem dX8_day_120 : decode cX8_day 120 = .ok (.iload 4, 2) := by decide +kernel
theorem dX8_day_122 : decode cX8_day 122 = .ok (.iadd, 1) := by decide +kernel
theorem dX8_day_123 : decode cX8_day 123 = .ok (.iconst 1, 1) := by decide +kernel
theorem dX8_day_124 : decode cX8_day 124 = .ok (.iadd, 1) := by decide +kernel
theorem dX8_day_125 : decode cX8_day 125 = .ok (.iaload, 1) := by decide +kernel
theorem dX8_day_126 : decode cX8_day 126 = .ok (.iaload, 1) := by decide +kernel
theorem dX8_day_127 : decode cX8_day 127 = .ok (.iload_n 2, 1) := by decide +kernel
theorem dX8_day_128 : decode cX8_day 128 = .ok (.if_icmp .le 7, 3) := by decide +kernel
theorem dX8_day_131 : decode cX8_day 131 = .ok (.iconst 1, 1) := by decide +kernel
theorem dX8_day_132 : decode cX8_day 132 = .ok (.goto 4, 3) := by decide +kernel
theorem dX8_day_135 : decode cX8_day 135 = .ok (.iconst 0, 1) := by decide +kernel
theorem dX8_day_136 : decode cX8_day 136 = .ok (.istore 5, 2) := by decide +kernel
theorem dX8_day_138 : decode cX8_day 138 = .ok (.iload 5, 2) := by decide +kernel
theorem dX8_day_140 : decode cX8_day 140 = .ok (.ifCond .eq 12, 3) := by decide +kernel
theorem dX8_day_143 : decode cX8_day 143 = .ok (.iload_n 3, 1) := by decide +kernel
theorem dX8_day_144 : decode cX8_day 144 = .ok (.iconst 1, 1) := by decide +kernel
theorem dX8_day_145 : decode cX8_day 145 = .ok (.iload 4, 2) := by decide +kernel
theorem dX8_day_147 : decode cX8_day 147 = .ok (.ishl, 1) := by decide +kernel
theorem dX8_day_148 : decode cX8_day 148 = .ok (.ior, 1) := by decide +kernel
theorem dX8_day_149 : decode cX8_day 149 = .ok (.goto 4, 3) := by decide +kernel
theorem dX8_day_152 : decode cX8_day 152 = .ok (.iload_n 3, 1) := by decide +kernel
theorem dX8_day_153 : decode cX8_day 153 = .ok (.istore_n 3, 1) := by decide +kernel
theorem dX8_day_154 : decode cX8_day 154 = .ok (.iinc 4 1, 3) := by decide +kernel
theorem dX8_day_157 : decode cX8_day 157 = .ok (.goto (-94), 3) := by decide +kernel
theorem dX8_day_160 : decode cX8_day 160 = .ok (.iload_n 3, 1) := by decide +kernel
theorem dX8_day_161 : decode cX8_day 161 = .ok (.ireturn, 1) := by decide +kernel
theorem dX8_bill_0 : decode cX8_bill 0 = .ok (.iload_n 1, 1) := by decide +kernel
theorem dX8_bill_1 : decode cX8_bill 1 = .ok (.iconst 0, 1) := by decide +kernel
theorem dX8_bill_2 : decode cX8_bill 2 = .ok (.aload_n 0, 1) := by decide +kernel
theorem dX8_bill_3 : decode cX8_bill 3 = .ok (.getfield 196, 3) := by decide +kernel
theorem dX8_bill_6 : decode cX8_bill 6 = .ok (.iconst 1, 1) := by decide +kernel
theorem dX8_bill_7 : decode cX8_bill 7 = .ok (.isub, 1) := by decide +kernel
theorem dX8_bill_8 : decode cX8_bill 8 = .ok (.invokestatic 116, 3) := by decide +kernel
theorem dX8_bill_11 : decode cX8_bill 11 = .ok (.ifCond .eq 12, 3) := by decide +kernel
theorem dX8_bill_14 : decode cX8_bill 14 = .ok (.iload_n 2, 1) := by decide +kernel
theorem dX8_bill_15 : decode cX8_bill 15 = .ok (.iconst 0, 1) := by decide +kernel
theorem dX8_bill_16 : decode cX8_bill 16 = .ok (.iconst 1, 1) := by decide +kernel
theorem dX8_bill_17 : decode cX8_bill 17 = .ok (.invokestatic 116, 3) := by decide +kernel
theorem dX8_bill_20 : decode cX8_bill 20 = .ok (.ifCond .ne 5, 3) := by decide +kernel
theorem dX8_bill_23 : decode cX8_bill 23 = .ok (.iconst (-1), 1) := by decide +kernel
theorem dX8_bill_24 : decode cX8_bill 24 = .ok (.ireturn, 1) := by decide +kernel
theorem dX8_bill_25 : decode cX8_bill 25 = .ok (.iload_n 2, 1) := by decide +kernel
theorem dX8_bill_26 : decode cX8_bill 26 = .ok (.ifCond .ne 12, 3) := by decide +kernel
theorem dX8_bill_29 : decode cX8_bill 29 = .ok (.aload_n 0, 1) := by decide +kernel
theorem dX8_bill_30 : decode cX8_bill 30 = .ok (.getfield 43, 3) := by decide +kernel
theorem dX8_bill_33 : decode cX8_bill 33 = .ok (.iload_n 1, 1) := by decide +kernel
theorem dX8_bill_34 : decode cX8_bill 34 = .ok (.iaload, 1) := by decide +kernel
theorem dX8_bill_35 : decode cX8_bill 35 = .ok (.goto 9, 3) := by decide +kernel
theorem dX8_bill_38 : decode cX8_bill 38 = .ok (.aload_n 0, 1) := by decide +kernel
theorem dX8_bill_39 : decode cX8_bill 39 = .ok (.getfield 46, 3) := by decide +kernel
theorem dX8_bill_42 : decode cX8_bill 42 = .ok (.iload_n 1, 1) := by decide +kernel
theorem dX8_bill_43 : decode cX8_bill 43 = .ok (.iaload, 1) := by decide +kernel
theorem dX8_bill_44 : decode cX8_bill 44 = .ok (.ireturn, 1) := by decide +kernel
theorem dX8_suits_0 : decode cX8_suits 0 = .ok (.aload_n 0, 1) := by decide +kernel
theorem dX8_suits_1 : decode cX8_suits 1 = .ok (.getfield 258, 3) := by decide +kernel
theorem dX8_suits_4 : decode cX8_suits 4 = .ok (.ifCond .eq 67, 3) := by decide +kernel
theorem dX8_suits_7 : decode cX8_suits 7 = .ok (.aload_n 0, 1) := by decide +kernel
theorem dX8_suits_8 : decode cX8_suits 8 = .ok (.getfield 46, 3) := by decide +kernel
theorem dX8_suits_11 : decode cX8_suits 11 = .ok (.iload_n 1, 1) := by decide +kernel
theorem dX8_suits_12 : decode cX8_suits 12 = .ok (.iaload, 1) := by decide +kernel
theorem dX8_suits_13 : decode cX8_suits 13 = .ok (.aload_n 0, 1) := by decide +kernel
theorem dX8_suits_14 : decode cX8_suits 14 = .ok (.getfield 101, 3) := by decide +kernel
theorem dX8_suits_17 : decode cX8_suits 17 = .ok (.iload_n 2, 1) := by decide +kernel
theorem dX8_suits_18 : decode cX8_suits 18 = .ok (.iaload, 1) := by decide +kernel
theorem dX8_suits_19 : decode cX8_suits 19 = .ok (.if_icmp .ne 52, 3) := by decide +kernel
theorem dX8_suits_22 : decode cX8_suits 22 = .ok (.aload_n 0, 1) := by decide +kernel
theorem dX8_suits_23 : decode cX8_suits 23 = .ok (.getfield 43, 3) := by decide +kernel
theorem dX8_suits_26 : decode cX8_suits 26 = .ok (.iload_n 1, 1) := by decide +kernel
theorem dX8_suits_27 : decode cX8_suits 27 = .ok (.iaload, 1) := by decide +kernel
theorem dX8_suits_28 : decode cX8_suits 28 = .ok (.aload_n 0, 1) := by decide +kernel
theorem dX8_suits_29 : decode cX8_suits 29 = .ok (.getfield 107, 3) := by decide +kernel
theorem dX8_suits_32 : decode cX8_suits 32 = .ok (.iload_n 2, 1) := by decide +kernel
theorem dX8_suits_33 : decode cX8_suits 33 = .ok (.iaload, 1) := by decide +kernel
theorem dX8_suits_34 : decode cX8_suits 34 = .ok (.aload_n 0, 1) := by decide +kernel
theorem dX8_suits_35 : decode cX8_suits 35 = .ok (.getfield 110, 3) := by decide +kernel
theorem dX8_suits_38 : decode cX8_suits 38 = .ok (.iload_n 2, 1) := by decide +kernel
theorem dX8_suits_39 : decode cX8_suits 39 = .ok (.iaload, 1) := by decide +kernel
theorem dX8_suits_40 : decode cX8_suits 40 = .ok (.invokestatic 116, 3) := by decide +kernel
theorem dX8_suits_43 : decode cX8_suits 43 = .ok (.ifCond .eq 28, 3) := by decide +kernel
theorem dX8_suits_46 : decode cX8_suits 46 = .ok (.iload_n 3, 1) := by decide +kernel
theorem dX8_suits_47 : decode cX8_suits 47 = .ok (.ifCond .eq 20, 3) := by decide +kernel
theorem dX8_suits_50 : decode cX8_suits 50 = .ok (.aload_n 0, 1) := by decide +kernel
theorem dX8_suits_51 : decode cX8_suits 51 = .ok (.getfield 43, 3) := by decide +kernel
theorem dX8_suits_54 : decode cX8_suits 54 = .ok (.iload_n 1, 1) := by decide +kernel
theorem dX8_suits_55 : decode cX8_suits 55 = .ok (.iaload, 1) := by decide +kernel
theorem dX8_suits_56 : decode cX8_suits 56 = .ok (.aload_n 0, 1) := by decide +kernel
theorem dX8_suits_57 : decode cX8_suits 57 = .ok (.getfield 43, 3) := by decide +kernel
theorem dX8_suits_60 : decode cX8_suits 60 = .ok (.iload_n 3, 1) := by decide +kernel
theorem dX8_suits_61 : decode cX8_suits 61 = .ok (.iconst 1, 1) := by decide +kernel
theorem dX8_suits_62 : decode cX8_suits 62 = .ok (.isub, 1) := by decide +kernel
theorem dX8_suits_63 : decode cX8_suits 63 = .ok (.iaload, 1) := by decide +kernel
theorem dX8_suits_64 : decode cX8_suits 64 = .ok (.if_icmp .le 7, 3) := by decide +kernel
theorem dX8_suits_67 : decode cX8_suits 67 = .ok (.iconst 1, 1) := by decide +kernel
theorem dX8_suits_68 : decode cX8_suits 68 = .ok (.goto 4, 3) := by decide +kernel
theorem dX8_suits_71 : decode cX8_suits 71 = .ok (.iconst 0, 1) := by decide +kernel
theorem dX8_suits_72 : decode cX8_suits 72 = .ok (.ireturn, 1) := by decide +kernel
theorem dX8_billed_0 : decode cX8_billed 0 = .ok (.aload_n 0, 1) := by decide +kernel
theorem dX8_billed_1 : decode cX8_billed 1 = .ok (.invokevirtual 205, 3) := by decide +kernel
theorem dX8_billed_4 : decode cX8_billed 4 = .ok (.iload_n 1, 1) := by decide +kernel
theorem dX8_billed_5 : decode cX8_billed 5 = .ok (.iconst (-1), 1) := by decide +kernel
theorem dX8_billed_6 : decode cX8_billed 6 = .ok (.aload_n 0, 1) := by decide +kernel
theorem dX8_billed_7 : decode cX8_billed 7 = .ok (.getfield 235, 3) := by decide +kernel
theorem dX8_billed_10 : decode cX8_billed 10 = .ok (.iconst 1, 1) := by decide +kernel
theorem dX8_billed_11 : decode cX8_billed 11 = .ok (.isub, 1) := by decide +kernel
theorem dX8_billed_12 : decode cX8_billed 12 = .ok (.invokestatic 116, 3) := by decide +kernel
theorem dX8_billed_15 : decode cX8_billed 15 = .ok (.ifCond .ne 5, 3) := by decide +kernel
theorem dX8_billed_18 : decode cX8_billed 18 = .ok (.iconst (-1), 1) := by decide +kernel
theorem dX8_billed_19 : decode cX8_billed 19 = .ok (.ireturn, 1) := by decide +kernel
theorem dX8_billed_20 : decode cX8_billed 20 = .ok (.aload_n 0, 1) := by decide +kernel
theorem dX8_billed_21 : decode cX8_billed 21 = .ok (.getfield 235, 3) := by decide +kernel
theorem dX8_billed_24 : decode cX8_billed 24 = .ok (.istore_n 2, 1) := by decide +kernel
theorem dX8_billed_25 : decode cX8_billed 25 = .ok (.iload_n 2, 1) := by decide +kernel
theorem dX8_billed_26 : decode cX8_billed 26 = .ok (.ifCond .lt 150, 3) := by decide +kernel
theorem dX8_billed_29 : decode cX8_billed 29 = .ok (.iconst 0, 1) := by decide +kernel
theorem dX8_billed_30 : decode cX8_billed 30 = .ok (.istore_n 3, 1) := by decide +kernel
theorem dX8_billed_31 : decode cX8_billed 31 = .ok (.iload_n 3, 1) := by decide +kernel
theorem dX8_billed_32 : decode cX8_billed 32 = .ok (.aload_n 0, 1) := by decide +kernel
theorem dX8_billed_33 : decode cX8_billed 33 = .ok (.getfield 196, 3) := by decide +kernel
theorem dX8_billed_36 : decode cX8_billed 36 = .ok (.if_icmp .gt 134, 3) := by decide +kernel
theorem dX8_billed_39 : decode cX8_billed 39 = .ok (.iload_n 2, 1) := by decide +kernel
theorem dX8_billed_40 : decode cX8_billed 40 = .ok (.aload_n 0, 1) := by decide +kernel
theorem dX8_billed_41 : decode cX8_billed 41 = .ok (.getfield 235, 3) := by decide +kernel
theorem dX8_billed_44 : decode cX8_billed 44 = .ok (.if_icmp .ne 7, 3) := by decide +kernel
theorem dX8_billed_47 : decode cX8_billed 47 = .ok (.iconst 0, 1) := by decide +kernel
theorem dX8_billed_48 : decode cX8_billed 48 = .ok (.goto 16, 3) := by decide +kernel
theorem dX8_billed_51 : decode cX8_billed 51 = .ok (.aload_n 0, 1) := by decide +kernel
theorem dX8_billed_52 : decode cX8_billed 52 = .ok (.getfield 113, 3) := by decide +kernel
theorem dX8_billed_55 : decode cX8_billed 55 = .ok (.bipush 9, 2) := by decide +kernel
theorem dX8_billed_57 : decode cX8_billed 57 = .ok (.iload_n 2, 1) := by decide +kernel
theorem dX8_billed_58 : decode cX8_billed 58 = .ok (.iconst 1, 1) := by decide +kernel
theorem dX8_billed_59 : decode cX8_billed 59 = .ok (.iadd, 1) := by decide +kernel
theorem dX8_billed_60 : decode cX8_billed 60 = .ok (.imul, 1) := by decide +kernel
theorem dX8_billed_61 : decode cX8_billed 61 = .ok (.iload_n 3, 1) := by decide +kernel
theorem dX8_billed_62 : decode cX8_billed 62 = .ok (.iadd, 1) := by decide +kernel
theorem dX8_billed_63 : decode cX8_billed 63 = .ok (.iaload, 1) := by decide +kernel
theorem dX8_billed_64 : decode cX8_billed 64 = .ok (.istore 4, 2) := by decide +kernel
theorem dX8_billed_66 : decode cX8_billed 66 = .ok (.iconst 0, 1) := by decide +kernel
theorem dX8_billed_67 : decode cX8_billed 67 = .ok (.istore 5, 2) := by decide +kernel
theorem dX8_billed_69 : decode cX8_billed 69 = .ok (.iload 5, 2) := by decide +kernel
theorem dX8_billed_71 : decode cX8_billed 71 = .ok (.aload_n 0, 1) := by decide +kernel
theorem dX8_billed_72 : decode cX8_billed 72 = .ok (.getfield 196, 3) := by decide +kernel
theorem dX8_billed_75 : decode cX8_billed 75 = .ok (.if_icmp .ge 76, 3) := by decide +kernel
theorem dX8_billed_78 : decode cX8_billed 78 = .ok (.iload_n 2, 1) := by decide +kernel
theorem dX8_billed_79 : decode cX8_billed 79 = .ok (.aload_n 0, 1) := by decide +kernel
theorem dX8_billed_80 : decode cX8_billed 80 = .ok (.getfield 235, 3) := by decide +kernel
theorem dX8_billed_83 : decode cX8_billed 83 = .ok (.if_icmp .ge 68, 3) := by decide +kernel
theorem dX8_billed_86 : decode cX8_billed 86 = .ok (.aload_n 0, 1) := by decide +kernel
theorem dX8_billed_87 : decode cX8_billed 87 = .ok (.iload 5, 2) := by decide +kernel
theorem dX8_billed_89 : decode cX8_billed 89 = .ok (.iload_n 2, 1) := by decide +kernel
theorem dX8_billed_90 : decode cX8_billed 90 = .ok (.iload_n 3, 1) := by decide +kernel
theorem dX8_billed_91 : decode cX8_billed 91 = .ok (.invokevirtual 264, 3) := by decide +kernel
theorem dX8_billed_94 : decode cX8_billed 94 = .ok (.ifCond .eq 47, 3) := by decide +kernel
theorem dX8_billed_97 : decode cX8_billed 97 = .ok (.aload_n 0, 1) := by decide +kernel
theorem dX8_billed_98 : decode cX8_billed 98 = .ok (.getfield 113, 3) := by decide +kernel
theorem dX8_billed_101 : decode cX8_billed 101 = .ok (.bipush 9, 2) := by decide +kernel
theorem dX8_billed_103 : decode cX8_billed 103 = .ok (.iload_n 2, 1) := by decide +kernel
theorem dX8_billed_104 : decode cX8_billed 104 = .ok (.iconst 1, 1) := by decide +kernel
theorem dX8_billed_105 : decode cX8_billed 105 = .ok (.iadd, 1) := by decide +kernel
theorem dX8_billed_106 : decode cX8_billed 106 = .ok (.imul, 1) := by decide +kernel
theorem dX8_billed_107 : decode cX8_billed 107 = .ok (.iload 5, 2) := by decide +kernel
theorem dX8_billed_109 : decode cX8_billed 109 = .ok (.iadd, 1) := by decide +kernel
theorem dX8_billed_110 : decode cX8_billed 110 = .ok (.iconst 1, 1) := by decide +kernel
theorem dX8_billed_111 : decode cX8_billed 111 = .ok (.iadd, 1) := by decide +kernel
theorem dX8_billed_112 : decode cX8_billed 112 = .ok (.iaload, 1) := by decide +kernel
theorem dX8_billed_113 : decode cX8_billed 113 = .ok (.iconst 1, 1) := by decide +kernel
theorem dX8_billed_114 : decode cX8_billed 114 = .ok (.iadd, 1) := by decide +kernel
theorem dX8_billed_115 : decode cX8_billed 115 = .ok (.iload 4, 2) := by decide +kernel
theorem dX8_billed_117 : decode cX8_billed 117 = .ok (.if_icmp .le 24, 3) := by decide +kernel
theorem dX8_billed_120 : decode cX8_billed 120 = .ok (.aload_n 0, 1) := by decide +kernel
theorem dX8_billed_121 : decode cX8_billed 121 = .ok (.getfield 113, 3) := by decide +kernel
theorem dX8_billed_124 : decode cX8_billed 124 = .ok (.bipush 9, 2) := by decide +kernel
theorem dX8_billed_126 : decode cX8_billed 126 = .ok (.iload_n 2, 1) := by decide +kernel
theorem dX8_billed_127 : decode cX8_billed 127 = .ok (.iconst 1, 1) := by decide +kernel
theorem dX8_billed_128 : decode cX8_billed 128 = .ok (.iadd, 1) := by decide +kernel
theorem dX8_billed_129 : decode cX8_billed 129 = .ok (.imul, 1) := by decide +kernel
theorem dX8_billed_130 : decode cX8_billed 130 = .ok (.iload 5, 2) := by decide +kernel
theorem dX8_billed_132 : decode cX8_billed 132 = .ok (.iadd, 1) := by decide +kernel
theorem dX8_billed_133 : decode cX8_billed 133 = .ok (.iconst 1, 1) := by decide +kernel
theorem dX8_billed_134 : decode cX8_billed 134 = .ok (.iadd, 1) := by decide +kernel
theorem dX8_billed_135 : decode cX8_billed 135 = .ok (.iaload, 1) := by decide +kernel
theorem dX8_billed_136 : decode cX8_billed 136 = .ok (.iconst 1, 1) := by decide +kernel
theorem dX8_billed_137 : decode cX8_billed 137 = .ok (.iadd, 1) := by decide +kernel
theorem dX8_billed_138 : decode cX8_billed 138 = .ok (.goto 5, 3) := by decide +kernel
theorem dX8_billed_141 : decode cX8_billed 141 = .ok (.iload 4, 2) := by decide +kernel
theorem dX8_billed_143 : decode cX8_billed 143 = .ok (.istore 4, 2) := by decide +kernel
theorem dX8_billed_145 : decode cX8_billed 145 = .ok (.iinc 5 1, 3) := by decide +kernel
theorem dX8_billed_148 : decode cX8_billed 148 = .ok (.goto (-79), 3) := by decide +kernel
theorem dX8_billed_151 : decode cX8_billed 151 = .ok (.aload_n 0, 1) := by decide +kernel
theorem dX8_billed_152 : decode cX8_billed 152 = .ok (.getfield 113, 3) := by decide +kernel
theorem dX8_billed_155 : decode cX8_billed 155 = .ok (.bipush 9, 2) := by decide +kernel
theorem dX8_billed_157 : decode cX8_billed 157 = .ok (.iload_n 2, 1) := by decide +kernel
theorem dX8_billed_158 : decode cX8_billed 158 = .ok (.imul, 1) := by decide +kernel
theorem dX8_billed_159 : decode cX8_billed 159 = .ok (.iload_n 3, 1) := by decide +kernel
theorem dX8_billed_160 : decode cX8_billed 160 = .ok (.iadd, 1) := by decide +kernel
theorem dX8_billed_161 : decode cX8_billed 161 = .ok (.iload 4, 2) := by decide +kernel
theorem dX8_billed_163 : decode cX8_billed 163 = .ok (.iastore, 1) := by decide +kernel
theorem dX8_billed_164 : decode cX8_billed 164 = .ok (.iinc 3 1, 3) := by decide +kernel
theorem dX8_billed_167 : decode cX8_billed 167 = .ok (.goto (-136), 3) := by decide +kernel
theorem dX8_billed_170 : decode cX8_billed 170 = .ok (.iinc 2 (-1), 3) := by decide +kernel
theorem dX8_billed_173 : decode cX8_billed 173 = .ok (.goto (-148), 3) := by decide +kernel
theorem dX8_billed_176 : decode cX8_billed 176 = .ok (.iconst 0, 1) := by decide +kernel
theorem dX8_billed_177 : decode cX8_billed 177 = .ok (.istore_n 2, 1) := by decide +kernel
theorem dX8_billed_178 : decode cX8_billed 178 = .ok (.aload_n 0, 1) := by decide +kernel
theorem dX8_billed_179 : decode cX8_billed 179 = .ok (.getfield 113, 3) := by decide +kernel
theorem dX8_billed_182 : decode cX8_billed 182 = .ok (.iconst 0, 1) := by decide +kernel
theorem dX8_billed_183 : decode cX8_billed 183 = .ok (.iaload, 1) := by decide +kernel
theorem dX8_billed_184 : decode cX8_billed 184 = .ok (.istore_n 3, 1) := by decide +kernel
theorem dX8_billed_185 : decode cX8_billed 185 = .ok (.iconst 0, 1) := by decide +kernel
theorem dX8_billed_186 : decode cX8_billed 186 = .ok (.istore 4, 2) := by decide +kernel
theorem dX8_billed_188 : decode cX8_billed 188 = .ok (.iload 4, 2) := by decide +kernel
theorem dX8_billed_190 : decode cX8_billed 190 = .ok (.iload_n 1, 1) := by decide +kernel
theorem dX8_billed_191 : decode cX8_billed 191 = .ok (.if_icmp .gt 124, 3) := by decide +kernel
theorem dX8_billed_194 : decode cX8_billed 194 = .ok (.iconst 0, 1) := by decide +kernel
theorem dX8_billed_195 : decode cX8_billed 195 = .ok (.istore_n 3, 1) := by decide +kernel
theorem dX8_billed_196 : decode cX8_billed 196 = .ok (.aload_n 0, 1) := by decide +kernel
theorem dX8_billed_197 : decode cX8_billed 197 = .ok (.getfield 196, 3) := by decide +kernel
theorem dX8_billed_200 : decode cX8_billed 200 = .ok (.iconst 1, 1) := by decide +kernel
theorem dX8_billed_201 : decode cX8_billed 201 = .ok (.isub, 1) := by decide +kernel
theorem dX8_billed_202 : decode cX8_billed 202 = .ok (.istore 5, 2) := by decide +kernel
theorem dX8_billed_204 : decode cX8_billed 204 = .ok (.iload 5, 2) := by decide +kernel
theorem dX8_billed_206 : decode cX8_billed 206 = .ok (.ifCond .lt 93, 3) := by decide +kernel
theorem dX8_billed_209 : decode cX8_billed 209 = .ok (.aload_n 0, 1) := by decide +kernel
theorem dX8_billed_210 : decode cX8_billed 210 = .ok (.getfield 113, 3) := by decide +kernel
theorem dX8_billed_213 : decode cX8_billed 213 = .ok (.bipush 9, 2) := by decide +kernel
theorem dX8_billed_215 : decode cX8_billed 215 = .ok (.iload 4, 2) := by decide +kernel
theorem dX8_billed_217 : decode cX8_billed 217 = .ok (.iconst 1, 1) := by decide +kernel
theorem dX8_billed_218 : decode cX8_billed 218 = .ok (.iadd, 1) := by decide +kernel
theorem dX8_billed_219 : decode cX8_billed 219 = .ok (.imul, 1) := by decide +kernel
theorem dX8_billed_220 : decode cX8_billed 220 = .ok (.iload_n 2, 1) := by decide +kernel
theorem dX8_billed_221 : decode cX8_billed 221 = .ok (.iadd, 1) := by decide +kernel
theorem dX8_billed_222 : decode cX8_billed 222 = .ok (.iaload, 1) := by decide +kernel
theorem dX8_billed_223 : decode cX8_billed 223 = .ok (.aload_n 0, 1) := by decide +kernel
theorem dX8_billed_224 : decode cX8_billed 224 = .ok (.getfield 113, 3) := by decide +kernel
theorem dX8_billed_227 : decode cX8_billed 227 = .ok (.bipush 9, 2) := by decide +kernel
theorem dX8_billed_229 : decode cX8_billed 229 = .ok (.iload 4, 2) := by decide +kernel
theorem dX8_billed_231 : decode cX8_billed 231 = .ok (.imul, 1) := by decide +kernel
theorem dX8_billed_232 : decode cX8_billed 232 = .ok (.iload_n 2, 1) := by decide +kernel
theorem dX8_billed_233 : decode cX8_billed 233 = .ok (.iadd, 1) := by decide +kernel
theorem dX8_billed_234 : decode cX8_billed 234 = .ok (.iaload, 1) := by decide +kernel
theorem dX8_billed_235 : decode cX8_billed 235 = .ok (.if_icmp .eq 64, 3) := by decide +kernel
theorem dX8_billed_238 : decode cX8_billed 238 = .ok (.aload_n 0, 1) := by decide +kernel
theorem dX8_billed_239 : decode cX8_billed 239 = .ok (.iload 5, 2) := by decide +kernel
theorem dX8_billed_241 : decode cX8_billed 241 = .ok (.iload 4, 2) := by decide +kernel
theorem dX8_billed_243 : decode cX8_billed 243 = .ok (.iload_n 2, 1) := by decide +kernel
theorem dX8_billed_244 : decode cX8_billed 244 = .ok (.invokevirtual 264, 3) := by decide +kernel
theorem dX8_billed_247 : decode cX8_billed 247 = .ok (.ifCond .eq 44, 3) := by decide +kernel
theorem dX8_billed_250 : decode cX8_billed 250 = .ok (.aload_n 0, 1) := by decide +kernel
theorem dX8_billed_251 : decode cX8_billed 251 = .ok (.getfield 113, 3) := by decide +kernel
theorem dX8_billed_254 : decode cX8_billed 254 = .ok (.bipush 9, 2) := by decide +kernel
theorem dX8_billed_256 : decode cX8_billed 256 = .ok (.iload 4, 2) := by decide +kernel
theorem dX8_billed_258 : decode cX8_billed 258 = .ok (.iconst 1, 1) := by decide +kernel
theorem dX8_billed_259 : decode cX8_billed 259 = .ok (.iadd, 1) := by decide +kernel
theorem dX8_billed_260 : decode cX8_billed 260 = .ok (.imul, 1) := by decide +kernel
theorem dX8_billed_261 : decode cX8_billed 261 = .ok (.iload 5, 2) := by decide +kernel
theorem dX8_billed_263 : decode cX8_billed 263 = .ok (.iadd, 1) := by decide +kernel
theorem dX8_billed_264 : decode cX8_billed 264 = .ok (.iconst 1, 1) := by decide +kernel
theorem dX8_billed_265 : decode cX8_billed 265 = .ok (.iadd, 1) := by decide +kernel
theorem dX8_billed_266 : decode cX8_billed 266 = .ok (.iaload, 1) := by decide +kernel
theorem dX8_billed_267 : decode cX8_billed 267 = .ok (.iconst 1, 1) := by decide +kernel
theorem dX8_billed_268 : decode cX8_billed 268 = .ok (.iadd, 1) := by decide +kernel
theorem dX8_billed_269 : decode cX8_billed 269 = .ok (.aload_n 0, 1) := by decide +kernel
theorem dX8_billed_270 : decode cX8_billed 270 = .ok (.getfield 113, 3) := by decide +kernel
theorem dX8_billed_273 : decode cX8_billed 273 = .ok (.bipush 9, 2) := by decide +kernel
theorem dX8_billed_275 : decode cX8_billed 275 = .ok (.iload 4, 2) := by decide +kernel
theorem dX8_billed_277 : decode cX8_billed 277 = .ok (.imul, 1) := by decide +kernel
theorem dX8_billed_278 : decode cX8_billed 278 = .ok (.iload_n 2, 1) := by decide +kernel
theorem dX8_billed_279 : decode cX8_billed 279 = .ok (.iadd, 1) := by decide +kernel
theorem dX8_billed_280 : decode cX8_billed 280 = .ok (.iaload, 1) := by decide +kernel
theorem dX8_billed_281 : decode cX8_billed 281 = .ok (.if_icmp .ne 10, 3) := by decide +kernel
theorem dX8_billed_284 : decode cX8_billed 284 = .ok (.iload 5, 2) := by decide +kernel
theorem dX8_billed_286 : decode cX8_billed 286 = .ok (.iconst 1, 1) := by decide +kernel
theorem dX8_billed_287 : decode cX8_billed 287 = .ok (.iadd, 1) := by decide +kernel
theorem dX8_billed_288 : decode cX8_billed 288 = .ok (.goto 4, 3) := by decide +kernel
theorem dX8_billed_291 : decode cX8_billed 291 = .ok (.iload_n 3, 1) := by decide +kernel
theorem dX8_billed_292 : decode cX8_billed 292 = .ok (.istore_n 3, 1) := by decide +kernel
theorem dX8_billed_293 : decode cX8_billed 293 = .ok (.iinc 5 (-1), 3) := by decide +kernel
theorem dX8_billed_296 : decode cX8_billed 296 = .ok (.goto (-92), 3) := by decide +kernel
theorem dX8_billed_299 : decode cX8_billed 299 = .ok (.iload_n 3, 1) := by decide +kernel
theorem dX8_billed_300 : decode cX8_billed 300 = .ok (.ifCond .le 7, 3) := by decide +kernel
theorem dX8_billed_303 : decode cX8_billed 303 = .ok (.iload_n 3, 1) := by decide +kernel
theorem dX8_billed_304 : decode cX8_billed 304 = .ok (.goto 4, 3) := by decide +kernel
theorem dX8_billed_307 : decode cX8_billed 307 = .ok (.iload_n 2, 1) := by decide +kernel
theorem dX8_billed_308 : decode cX8_billed 308 = .ok (.istore_n 2, 1) := by decide +kernel
theorem dX8_billed_309 : decode cX8_billed 309 = .ok (.iinc 4 1, 3) := by decide +kernel
theorem dX8_billed_312 : decode cX8_billed 312 = .ok (.goto (-124), 3) := by decide +kernel
theorem dX8_billed_315 : decode cX8_billed 315 = .ok (.iload_n 3, 1) := by decide +kernel
theorem dX8_billed_316 : decode cX8_billed 316 = .ok (.ireturn, 1) := by decide +kernel
theorem dX8_enough_0 : decode cX8_enough 0 = .ok (.iload_n 1, 1) := by decide +kernel
theorem dX8_enough_1 : decode cX8_enough 1 = .ok (.iconst 1, 1) := by decide +kernel
theorem dX8_enough_2 : decode cX8_enough 2 = .ok (.bipush 10, 2) := by decide +kernel
theorem dX8_enough_4 : decode cX8_enough 4 = .ok (.invokestatic 116, 3) := by decide +kernel
theorem dX8_enough_7 : decode cX8_enough 7 = .ok (.ifCond .eq 13, 3) := by decide +kernel
theorem dX8_enough_10 : decode cX8_enough 10 = .ok (.iload_n 2, 1) := by decide +kernel
theorem dX8_enough_11 : decode cX8_enough 11 = .ok (.iconst 0, 1) := by decide +kernel
theorem dX8_enough_12 : decode cX8_enough 12 = .ok (.bipush 100, 2) := by decide +kernel
theorem dX8_enough_14 : decode cX8_enough 14 = .ok (.invokestatic 116, 3) := by decide +kernel
theorem dX8_enough_17 : decode cX8_enough 17 = .ok (.ifCond .ne 5, 3) := by decide +kernel
theorem dX8_enough_20 : decode cX8_enough 20 = .ok (.iconst (-1), 1) := by decide +kernel
theorem dX8_enough_21 : decode cX8_enough 21 = .ok (.ireturn, 1) := by decide +kernel
theorem dX8_enough_22 : decode cX8_enough 22 = .ok (.lconst 1, 1) := by decide +kernel
theorem dX8_enough_23 : decode cX8_enough 23 = .ok (.lstore_n 3, 1) := by decide +kernel
theorem dX8_enough_24 : decode cX8_enough 24 = .ok (.lconst 1, 1) := by decide +kernel
theorem dX8_enough_25 : decode cX8_enough 25 = .ok (.lstore 5, 2) := by decide +kernel
theorem dX8_enough_27 : decode cX8_enough 27 = .ok (.iconst 1, 1) := by decide +kernel
theorem dX8_enough_28 : decode cX8_enough 28 = .ok (.istore 7, 2) := by decide +kernel
theorem dX8_enough_30 : decode cX8_enough 30 = .ok (.iload 7, 2) := by decide +kernel
theorem dX8_enough_32 : decode cX8_enough 32 = .ok (.bipush 9, 2) := by decide +kernel
theorem dX8_enough_34 : decode cX8_enough 34 = .ok (.if_icmp .gt 85, 3) := by decide +kernel
theorem dX8_enough_37 : decode cX8_enough 37 = .ok (.ldc2_w 267, 3) := by decide +kernel
theorem dX8_enough_40 : decode cX8_enough 40 = .ok (.lload_n 3, 1) := by decide +kernel
theorem dX8_enough_41 : decode cX8_enough 41 = .ok (.lmul, 1) := by decide +kernel
theorem dX8_enough_42 : decode cX8_enough 42 = .ok (.lstore_n 3, 1) := by decide +kernel
theorem dX8_enough_43 : decode cX8_enough 43 = .ok (.aload_n 0, 1) := by decide +kernel
theorem dX8_enough_44 : decode cX8_enough 44 = .ok (.getfield 64, 3) := by decide +kernel
theorem dX8_enough_47 : decode cX8_enough 47 = .ok (.iconst 4, 1) := by decide +kernel
theorem dX8_enough_48 : decode cX8_enough 48 = .ok (.iaload, 1) := by decide +kernel
theorem dX8_enough_49 : decode cX8_enough 49 = .ok (.i2l, 1) := by decide +kernel
theorem dX8_enough_50 : decode cX8_enough 50 = .ok (.lload 5, 2) := by decide +kernel
theorem dX8_enough_52 : decode cX8_enough 52 = .ok (.lmul, 1) := by decide +kernel
theorem dX8_enough_53 : decode cX8_enough 53 = .ok (.lstore 5, 2) := by decide +kernel
theorem dX8_enough_55 : decode cX8_enough 55 = .ok (.ldc2_w 269, 3) := by decide +kernel
theorem dX8_enough_58 : decode cX8_enough 58 = .ok (.lload_n 3, 1) := by decide +kernel
theorem dX8_enough_59 : decode cX8_enough 59 = .ok (.lload 5, 2) := by decide +kernel
theorem dX8_enough_61 : decode cX8_enough 61 = .ok (.lsub, 1) := by decide +kernel
theorem dX8_enough_62 : decode cX8_enough 62 = .ok (.lmul, 1) := by decide +kernel
theorem dX8_enough_63 : decode cX8_enough 63 = .ok (.lload_n 3, 1) := by decide +kernel
theorem dX8_enough_64 : decode cX8_enough 64 = .ok (.ldiv, 1) := by decide +kernel
theorem dX8_enough_65 : decode cX8_enough 65 = .ok (.lstore 8, 2) := by decide +kernel
theorem dX8_enough_67 : decode cX8_enough 67 = .ok (.ldc2_w 269, 3) := by decide +kernel
theorem dX8_enough_70 : decode cX8_enough 70 = .ok (.lstore 10, 2) := by decide +kernel
theorem dX8_enough_72 : decode cX8_enough 72 = .ok (.iconst 0, 1) := by decide +kernel
theorem dX8_enough_73 : decode cX8_enough 73 = .ok (.istore 12, 2) := by decide +kernel
theorem dX8_enough_75 : decode cX8_enough 75 = .ok (.iload 12, 2) := by decide +kernel
theorem dX8_enough_77 : decode cX8_enough 77 = .ok (.iload_n 1, 1) := by decide +kernel
theorem dX8_enough_78 : decode cX8_enough 78 = .ok (.if_icmp .ge 20, 3) := by decide +kernel
theorem dX8_enough_81 : decode cX8_enough 81 = .ok (.lload 10, 2) := by decide +kernel
theorem dX8_enough_83 : decode cX8_enough 83 = .ok (.lload 8, 2) := by decide +kernel
theorem dX8_enough_85 : decode cX8_enough 85 = .ok (.lmul, 1) := by decide +kernel
theorem dX8_enough_86 : decode cX8_enough 86 = .ok (.ldc2_w 269, 3) := by decide +kernel
theorem dX8_enough_89 : decode cX8_enough 89 = .ok (.ldiv, 1) := by decide +kernel
theorem dX8_enough_90 : decode cX8_enough 90 = .ok (.lstore 10, 2) := by decide +kernel
theorem dX8_enough_92 : decode cX8_enough 92 = .ok (.iinc 12 1, 3) := by decide +kernel
theorem dX8_enough_95 : decode cX8_enough 95 = .ok (.goto (-20), 3) := by decide +kernel
theorem dX8_enough_98 : decode cX8_enough 98 = .ok (.lload 10, 2) := by decide +kernel
theorem dX8_enough_100 : decode cX8_enough 100 = .ok (.ldc2_w 271, 3) := by decide +kernel
theorem dX8_enough_103 : decode cX8_enough 103 = .ok (.iload_n 2, 1) := by decide +kernel
theorem dX8_enough_104 : decode cX8_enough 104 = .ok (.i2l, 1) := by decide +kernel
theorem dX8_enough_105 : decode cX8_enough 105 = .ok (.lmul, 1) := by decide +kernel
theorem dX8_enough_106 : decode cX8_enough 106 = .ok (.lcmp, 1) := by decide +kernel
theorem dX8_enough_107 : decode cX8_enough 107 = .ok (.ifCond .lt 6, 3) := by decide +kernel
theorem dX8_enough_110 : decode cX8_enough 110 = .ok (.iload 7, 2) := by decide +kernel
theorem dX8_enough_112 : decode cX8_enough 112 = .ok (.ireturn, 1) := by decide +kernel
theorem dX8_enough_113 : decode cX8_enough 113 = .ok (.iinc 7 1, 3) := by decide +kernel
theorem dX8_enough_116 : decode cX8_enough 116 = .ok (.goto (-86), 3) := by decide +kernel
theorem dX8_enough_119 : decode cX8_enough 119 = .ok (.bipush (-9), 2) := by decide +kernel
theorem dX8_enough_121 : decode cX8_enough 121 = .ok (.ireturn, 1) := by decide +kernel
theorem dX8_next_0 : decode cX8_next 0 = .ok (.aload_n 0, 1) := by decide +kernel
theorem dX8_next_1 : decode cX8_next 1 = .ok (.invokevirtual 205, 3) := by decide +kernel
theorem dX8_next_4 : decode cX8_next 4 = .ok (.bipush (-9), 2) := by decide +kernel
theorem dX8_next_6 : decode cX8_next 6 = .ok (.istore_n 1, 1) := by decide +kernel
theorem dX8_next_7 : decode cX8_next 7 = .ok (.iconst (-1), 1) := by decide +kernel
theorem dX8_next_8 : decode cX8_next 8 = .ok (.istore_n 2, 1) := by decide +kernel
theorem dX8_next_9 : decode cX8_next 9 = .ok (.iconst 0, 1) := by decide +kernel
theorem dX8_next_10 : decode cX8_next 10 = .ok (.istore_n 3, 1) := by decide +kernel
theorem dX8_next_11 : decode cX8_next 11 = .ok (.iload_n 3, 1) := by decide +kernel
theorem dX8_next_12 : decode cX8_next 12 = .ok (.bipush 6, 2) := by decide +kernel
theorem dX8_next_14 : decode cX8_next 14 = .ok (.if_icmp .ge 170, 3) := by decide +kernel
theorem dX8_next_17 : decode cX8_next 17 = .ok (.iconst 0, 1) := by decide +kernel
theorem dX8_next_18 : decode cX8_next 18 = .ok (.istore 4, 2) := by decide +kernel
theorem dX8_next_20 : decode cX8_next 20 = .ok (.iconst 0, 1) := by decide +kernel
theorem dX8_next_21 : decode cX8_next 21 = .ok (.istore 5, 2) := by decide +kernel
theorem dX8_next_23 : decode cX8_next 23 = .ok (.iload 5, 2) := by decide +kernel
theorem dX8_next_25 : decode cX8_next 25 = .ok (.aload_n 0, 1) := by decide +kernel
theorem dX8_next_26 : decode cX8_next 26 = .ok (.getfield 173, 3) := by decide +kernel
theorem dX8_next_29 : decode cX8_next 29 = .ok (.if_icmp .ge 32, 3) := by decide +kernel
theorem dX8_next_32 : decode cX8_next 32 = .ok (.iload 4, 2) := by decide +kernel
theorem dX8_next_34 : decode cX8_next 34 = .ok (.ifCond .ne 14, 3) := by decide +kernel
theorem dX8_next_37 : decode cX8_next 37 = .ok (.aload_n 0, 1) := by decide +kernel
theorem dX8_next_38 : decode cX8_next 38 = .ok (.getfield 13, 3) := by decide +kernel
theorem dX8_next_41 : decode cX8_next 41 = .ok (.iload 5, 2) := by decide +kernel
theorem dX8_next_43 : decode cX8_next 43 = .ok (.iaload, 1) := by decide +kernel
theorem dX8_next_44 : decode cX8_next 44 = .ok (.iload_n 3, 1) := by decide +kernel
theorem dX8_next_45 : decode cX8_next 45 = .ok (.if_icmp .ne 7, 3) := by decide +kernel
theorem dX8_next_48 : decode cX8_next 48 = .ok (.iconst 1, 1) := by decide +kernel
theorem dX8_next_49 : decode cX8_next 49 = .ok (.goto 4, 3) := by decide +kernel
theorem dX8_next_52 : decode cX8_next 52 = .ok (.iconst 0, 1) := by decide +kernel
theorem dX8_next_53 : decode cX8_next 53 = .ok (.istore 4, 2) := by decide +kernel
theorem dX8_next_55 : decode cX8_next 55 = .ok (.iinc 5 1, 3) := by decide +kernel
theorem dX8_next_58 : decode cX8_next 58 = .ok (.goto (-35), 3) := by decide +kernel
theorem dX8_next_61 : decode cX8_next 61 = .ok (.iload 4, 2) := by decide +kernel
theorem dX8_next_63 : decode cX8_next 63 = .ok (.ifCond .eq 7, 3) := by decide +kernel
theorem dX8_next_66 : decode cX8_next 66 = .ok (.iconst 0, 1) := by decide +kernel
theorem dX8_next_67 : decode cX8_next 67 = .ok (.goto 4, 3) := by decide +kernel
theorem dX8_next_70 : decode cX8_next 70 = .ok (.iconst (-1), 1) := by decide +kernel
theorem dX8_next_71 : decode cX8_next 71 = .ok (.istore 5, 2) := by decide +kernel
theorem dX8_next_73 : decode cX8_next 73 = .ok (.iconst 0, 1) := by decide +kernel
theorem dX8_next_74 : decode cX8_next 74 = .ok (.istore 6, 2) := by decide +kernel
theorem dX8_next_76 : decode cX8_next 76 = .ok (.iload 6, 2) := by decide +kernel
theorem dX8_next_78 : decode cX8_next 78 = .ok (.aload_n 0, 1) := by decide +kernel
theorem dX8_next_79 : decode cX8_next 79 = .ok (.getfield 235, 3) := by decide +kernel
theorem dX8_next_82 : decode cX8_next 82 = .ok (.if_icmp .ge 85, 3) := by decide +kernel
theorem dX8_next_85 : decode cX8_next 85 = .ok (.iload 4, 2) := by decide +kernel
theorem dX8_next_87 : decode cX8_next 87 = .ok (.ifCond .eq 80, 3) := by decide +kernel
theorem dX8_next_90 : decode cX8_next 90 = .ok (.iconst 0, 1) := by decide +kernel
theorem dX8_next_91 : decode cX8_next 91 = .ok (.istore 7, 2) := by decide +kernel
theorem dX8_next_93 : decode cX8_next 93 = .ok (.iconst 0, 1) := by decide +kernel
theorem dX8_next_94 : decode cX8_next 94 = .ok (.istore 8, 2) := by decide +kernel
theorem dX8_next_96 : decode cX8_next 96 = .ok (.iload 8, 2) := by decide +kernel
theorem dX8_next_98 : decode cX8_next 98 = .ok (.aload_n 0, 1) := by decide +kernel

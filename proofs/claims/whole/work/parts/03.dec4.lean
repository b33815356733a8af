theorem dX9_tellsLoop_38 : decode cX9_tellsLoop 38 = .ok (.iaload, 1) := by decide +kernel
theorem dX9_tellsLoop_39 : decode cX9_tellsLoop 39 = .ok (.aload_n 0, 1) := by decide +kernel
theorem dX9_tellsLoop_40 : decode cX9_tellsLoop 40 = .ok (.getfield 63, 3) := by decide +kernel
theorem dX9_tellsLoop_43 : decode cX9_tellsLoop 43 = .ok (.bipush 19, 2) := by decide +kernel
theorem dX9_tellsLoop_45 : decode cX9_tellsLoop 45 = .ok (.iload 7, 2) := by decide +kernel
theorem dX9_tellsLoop_47 : decode cX9_tellsLoop 47 = .ok (.iadd, 1) := by decide +kernel
theorem dX9_tellsLoop_48 : decode cX9_tellsLoop 48 = .ok (.iaload, 1) := by decide +kernel
theorem dX9_tellsLoop_49 : decode cX9_tellsLoop 49 = .ok (.iadd, 1) := by decide +kernel
theorem dX9_tellsLoop_50 : decode cX9_tellsLoop 50 = .ok (.aload_n 0, 1) := by decide +kernel
theorem dX9_tellsLoop_51 : decode cX9_tellsLoop 51 = .ok (.getfield 63, 3) := by decide +kernel
theorem dX9_tellsLoop_54 : decode cX9_tellsLoop 54 = .ok (.bipush 67, 2) := by decide +kernel
theorem dX9_tellsLoop_56 : decode cX9_tellsLoop 56 = .ok (.iaload, 1) := by decide +kernel
theorem dX9_tellsLoop_57 : decode cX9_tellsLoop 57 = .ok (.iadd, 1) := by decide +kernel
theorem dX9_tellsLoop_58 : decode cX9_tellsLoop 58 = .ok (.i2l, 1) := by decide +kernel
theorem dX9_tellsLoop_59 : decode cX9_tellsLoop 59 = .ok (.lmul, 1) := by decide +kernel
theorem dX9_tellsLoop_60 : decode cX9_tellsLoop 60 = .ok (.ladd, 1) := by decide +kernel
theorem dX9_tellsLoop_61 : decode cX9_tellsLoop 61 = .ok (.lstore_n 2, 1) := by decide +kernel
theorem dX9_tellsLoop_62 : decode cX9_tellsLoop 62 = .ok (.lload 4, 2) := by decide +kernel
theorem dX9_tellsLoop_64 : decode cX9_tellsLoop 64 = .ok (.aload_n 0, 1) := by decide +kernel
theorem dX9_tellsLoop_65 : decode cX9_tellsLoop 65 = .ok (.iload 7, 2) := by decide +kernel
theorem dX9_tellsLoop_67 : decode cX9_tellsLoop 67 = .ok (.invokevirtual 272, 3) := by decide +kernel
theorem dX9_tellsLoop_70 : decode cX9_tellsLoop 70 = .ok (.i2l, 1) := by decide +kernel
theorem dX9_tellsLoop_71 : decode cX9_tellsLoop 71 = .ok (.ladd, 1) := by decide +kernel
theorem dX9_tellsLoop_72 : decode cX9_tellsLoop 72 = .ok (.lstore 4, 2) := by decide +kernel
theorem dX9_tellsLoop_74 : decode cX9_tellsLoop 74 = .ok (.iinc 6 1, 3) := by decide +kernel
theorem dX9_tellsLoop_77 : decode cX9_tellsLoop 77 = .ok (.goto (-69), 3) := by decide +kernel
theorem dX9_tellsLoop_80 : decode cX9_tellsLoop 80 = .ok (.aload_n 0, 1) := by decide +kernel
theorem dX9_tellsLoop_81 : decode cX9_tellsLoop 81 = .ok (.getfield 340, 3) := by decide +kernel
theorem dX9_tellsLoop_84 : decode cX9_tellsLoop 84 = .ok (.ifCond .ne 7, 3) := by decide +kernel
theorem dX9_tellsLoop_87 : decode cX9_tellsLoop 87 = .ok (.lconst 1, 1) := by decide +kernel
theorem dX9_tellsLoop_88 : decode cX9_tellsLoop 88 = .ok (.goto 17, 3) := by decide +kernel
theorem dX9_tellsLoop_91 : decode cX9_tellsLoop 91 = .ok (.lload_n 2, 1) := by decide +kernel
theorem dX9_tellsLoop_92 : decode cX9_tellsLoop 92 = .ok (.aload_n 0, 1) := by decide +kernel
theorem dX9_tellsLoop_93 : decode cX9_tellsLoop 93 = .ok (.getfield 343, 3) := by decide +kernel
theorem dX9_tellsLoop_96 : decode cX9_tellsLoop 96 = .ok (.lmul, 1) := by decide +kernel
theorem dX9_tellsLoop_97 : decode cX9_tellsLoop 97 = .ok (.aload_n 0, 1) := by decide +kernel
theorem dX9_tellsLoop_98 : decode cX9_tellsLoop 98 = .ok (.getfield 347, 3) := by decide +kernel
theorem dX9_tellsLoop_101 : decode cX9_tellsLoop 101 = .ok (.lload 4, 2) := by decide +kernel
theorem dX9_tellsLoop_103 : decode cX9_tellsLoop 103 = .ok (.lmul, 1) := by decide +kernel
theorem dX9_tellsLoop_104 : decode cX9_tellsLoop 104 = .ok (.lsub, 1) := by decide +kernel
theorem dX9_tellsLoop_105 : decode cX9_tellsLoop 105 = .ok (.lstore 6, 2) := by decide +kernel
theorem dX9_tellsLoop_107 : decode cX9_tellsLoop 107 = .ok (.lload 6, 2) := by decide +kernel
theorem dX9_tellsLoop_109 : decode cX9_tellsLoop 109 = .ok (.lconst 0, 1) := by decide +kernel
theorem dX9_tellsLoop_110 : decode cX9_tellsLoop 110 = .ok (.lcmp, 1) := by decide +kernel
theorem dX9_tellsLoop_111 : decode cX9_tellsLoop 111 = .ok (.ifCond .lt 18, 3) := by decide +kernel
theorem dX9_tellsLoop_114 : decode cX9_tellsLoop 114 = .ok (.lload 6, 2) := by decide +kernel
theorem dX9_tellsLoop_116 : decode cX9_tellsLoop 116 = .ok (.lconst 0, 1) := by decide +kernel
theorem dX9_tellsLoop_117 : decode cX9_tellsLoop 117 = .ok (.lcmp, 1) := by decide +kernel
theorem dX9_tellsLoop_118 : decode cX9_tellsLoop 118 = .ok (.ifCond .ne 12, 3) := by decide +kernel
theorem dX9_tellsLoop_121 : decode cX9_tellsLoop 121 = .ok (.aload_n 0, 1) := by decide +kernel
theorem dX9_tellsLoop_122 : decode cX9_tellsLoop 122 = .ok (.iload_n 1, 1) := by decide +kernel
theorem dX9_tellsLoop_123 : decode cX9_tellsLoop 123 = .ok (.invokevirtual 350, 3) := by decide +kernel
theorem dX9_tellsLoop_126 : decode cX9_tellsLoop 126 = .ok (.ifCond .ne 4, 3) := by decide +kernel
theorem dX9_tellsLoop_129 : decode cX9_tellsLoop 129 = .ok (.return_, 1) := by decide +kernel
theorem dX9_tellsLoop_130 : decode cX9_tellsLoop 130 = .ok (.aload_n 0, 1) := by decide +kernel
theorem dX9_tellsLoop_131 : decode cX9_tellsLoop 131 = .ok (.lload_n 2, 1) := by decide +kernel
theorem dX9_tellsLoop_132 : decode cX9_tellsLoop 132 = .ok (.putfield 347, 3) := by decide +kernel
theorem dX9_tellsLoop_135 : decode cX9_tellsLoop 135 = .ok (.aload_n 0, 1) := by decide +kernel
theorem dX9_tellsLoop_136 : decode cX9_tellsLoop 136 = .ok (.lload 4, 2) := by decide +kernel
theorem dX9_tellsLoop_138 : decode cX9_tellsLoop 138 = .ok (.putfield 343, 3) := by decide +kernel
theorem dX9_tellsLoop_141 : decode cX9_tellsLoop 141 = .ok (.aload_n 0, 1) := by decide +kernel
theorem dX9_tellsLoop_142 : decode cX9_tellsLoop 142 = .ok (.iload_n 1, 1) := by decide +kernel
theorem dX9_tellsLoop_143 : decode cX9_tellsLoop 143 = .ok (.putfield 340, 3) := by decide +kernel
theorem dX9_tellsLoop_146 : decode cX9_tellsLoop 146 = .ok (.iconst 0, 1) := by decide +kernel
theorem dX9_tellsLoop_147 : decode cX9_tellsLoop 147 = .ok (.istore 8, 2) := by decide +kernel
theorem dX9_tellsLoop_149 : decode cX9_tellsLoop 149 = .ok (.iload 8, 2) := by decide +kernel
theorem dX9_tellsLoop_151 : decode cX9_tellsLoop 151 = .ok (.iload_n 1, 1) := by decide +kernel
theorem dX9_tellsLoop_152 : decode cX9_tellsLoop 152 = .ok (.if_icmp .ge 23, 3) := by decide +kernel
theorem dX9_tellsLoop_155 : decode cX9_tellsLoop 155 = .ok (.aload_n 0, 1) := by decide +kernel
theorem dX9_tellsLoop_156 : decode cX9_tellsLoop 156 = .ok (.getfield 88, 3) := by decide +kernel
theorem dX9_tellsLoop_159 : decode cX9_tellsLoop 159 = .ok (.iload 8, 2) := by decide +kernel
theorem dX9_tellsLoop_161 : decode cX9_tellsLoop 161 = .ok (.aload_n 0, 1) := by decide +kernel
theorem dX9_tellsLoop_162 : decode cX9_tellsLoop 162 = .ok (.getfield 82, 3) := by decide +kernel
theorem dX9_tellsLoop_165 : decode cX9_tellsLoop 165 = .ok (.iload 8, 2) := by decide +kernel
theorem dX9_tellsLoop_167 : decode cX9_tellsLoop 167 = .ok (.iaload, 1) := by decide +kernel
theorem dX9_tellsLoop_168 : decode cX9_tellsLoop 168 = .ok (.iastore, 1) := by decide +kernel
theorem dX9_tellsLoop_169 : decode cX9_tellsLoop 169 = .ok (.iinc 8 1, 3) := by decide +kernel
theorem dX9_tellsLoop_172 : decode cX9_tellsLoop 172 = .ok (.goto (-23), 3) := by decide +kernel
theorem dX9_tellsLoop_175 : decode cX9_tellsLoop 175 = .ok (.return_, 1) := by decide +kernel
theorem dX9_isFirst_0 : decode cX9_isFirst 0 = .ok (.iload_n 1, 1) := by decide +kernel
theorem dX9_isFirst_1 : decode cX9_isFirst 1 = .ok (.aload_n 0, 1) := by decide +kernel
theorem dX9_isFirst_2 : decode cX9_isFirst 2 = .ok (.getfield 340, 3) := by decide +kernel
theorem dX9_isFirst_5 : decode cX9_isFirst 5 = .ok (.if_icmp .eq 17, 3) := by decide +kernel
theorem dX9_isFirst_8 : decode cX9_isFirst 8 = .ok (.iload_n 1, 1) := by decide +kernel
theorem dX9_isFirst_9 : decode cX9_isFirst 9 = .ok (.aload_n 0, 1) := by decide +kernel
theorem dX9_isFirst_10 : decode cX9_isFirst 10 = .ok (.getfield 340, 3) := by decide +kernel
theorem dX9_isFirst_13 : decode cX9_isFirst 13 = .ok (.if_icmp .ge 7, 3) := by decide +kernel
theorem dX9_isFirst_16 : decode cX9_isFirst 16 = .ok (.iconst 1, 1) := by decide +kernel
theorem dX9_isFirst_17 : decode cX9_isFirst 17 = .ok (.goto 4, 3) := by decide +kernel
theorem dX9_isFirst_20 : decode cX9_isFirst 20 = .ok (.iconst 0, 1) := by decide +kernel
theorem dX9_isFirst_21 : decode cX9_isFirst 21 = .ok (.ireturn, 1) := by decide +kernel
theorem dX9_isFirst_22 : decode cX9_isFirst 22 = .ok (.iconst 0, 1) := by decide +kernel
theorem dX9_isFirst_23 : decode cX9_isFirst 23 = .ok (.istore_n 2, 1) := by decide +kernel
theorem dX9_isFirst_24 : decode cX9_isFirst 24 = .ok (.iload_n 2, 1) := by decide +kernel
theorem dX9_isFirst_25 : decode cX9_isFirst 25 = .ok (.iload_n 1, 1) := by decide +kernel
theorem dX9_isFirst_26 : decode cX9_isFirst 26 = .ok (.if_icmp .ge 45, 3) := by decide +kernel
theorem dX9_isFirst_29 : decode cX9_isFirst 29 = .ok (.aload_n 0, 1) := by decide +kernel
theorem dX9_isFirst_30 : decode cX9_isFirst 30 = .ok (.getfield 82, 3) := by decide +kernel
theorem dX9_isFirst_33 : decode cX9_isFirst 33 = .ok (.iload_n 2, 1) := by decide +kernel
theorem dX9_isFirst_34 : decode cX9_isFirst 34 = .ok (.iaload, 1) := by decide +kernel
theorem dX9_isFirst_35 : decode cX9_isFirst 35 = .ok (.aload_n 0, 1) := by decide +kernel
theorem dX9_isFirst_36 : decode cX9_isFirst 36 = .ok (.getfield 88, 3) := by decide +kernel
theorem dX9_isFirst_39 : decode cX9_isFirst 39 = .ok (.iload_n 2, 1) := by decide +kernel
theorem dX9_isFirst_40 : decode cX9_isFirst 40 = .ok (.iaload, 1) := by decide +kernel
theorem dX9_isFirst_41 : decode cX9_isFirst 41 = .ok (.if_icmp .eq 24, 3) := by decide +kernel
theorem dX9_isFirst_44 : decode cX9_isFirst 44 = .ok (.aload_n 0, 1) := by decide +kernel
theorem dX9_isFirst_45 : decode cX9_isFirst 45 = .ok (.getfield 82, 3) := by decide +kernel
theorem dX9_isFirst_48 : decode cX9_isFirst 48 = .ok (.iload_n 2, 1) := by decide +kernel
theorem dX9_isFirst_49 : decode cX9_isFirst 49 = .ok (.iaload, 1) := by decide +kernel
theorem dX9_isFirst_50 : decode cX9_isFirst 50 = .ok (.aload_n 0, 1) := by decide +kernel
theorem dX9_isFirst_51 : decode cX9_isFirst 51 = .ok (.getfield 88, 3) := by decide +kernel
theorem dX9_isFirst_54 : decode cX9_isFirst 54 = .ok (.iload_n 2, 1) := by decide +kernel
theorem dX9_isFirst_55 : decode cX9_isFirst 55 = .ok (.iaload, 1) := by decide +kernel
theorem dX9_isFirst_56 : decode cX9_isFirst 56 = .ok (.if_icmp .ge 7, 3) := by decide +kernel
theorem dX9_isFirst_59 : decode cX9_isFirst 59 = .ok (.iconst 1, 1) := by decide +kernel
theorem dX9_isFirst_60 : decode cX9_isFirst 60 = .ok (.goto 4, 3) := by decide +kernel
theorem dX9_isFirst_63 : decode cX9_isFirst 63 = .ok (.iconst 0, 1) := by decide +kernel
theorem dX9_isFirst_64 : decode cX9_isFirst 64 = .ok (.ireturn, 1) := by decide +kernel
theorem dX9_isFirst_65 : decode cX9_isFirst 65 = .ok (.iinc 2 1, 3) := by decide +kernel
theorem dX9_isFirst_68 : decode cX9_isFirst 68 = .ok (.goto (-44), 3) := by decide +kernel
theorem dX9_isFirst_71 : decode cX9_isFirst 71 = .ok (.iconst 0, 1) := by decide +kernel
theorem dX9_isFirst_72 : decode cX9_isFirst 72 = .ok (.ireturn, 1) := by decide +kernel
theorem dX9_loopsFrom_0 : decode cX9_loopsFrom 0 = .ok (.iconst 1, 1) := by decide +kernel
theorem dX9_loopsFrom_1 : decode cX9_loopsFrom 1 = .ok (.iload_n 1, 1) := by decide +kernel
theorem dX9_loopsFrom_2 : decode cX9_loopsFrom 2 = .ok (.ishl, 1) := by decide +kernel
theorem dX9_loopsFrom_3 : decode cX9_loopsFrom 3 = .ok (.istore_n 2, 1) := by decide +kernel
theorem dX9_loopsFrom_4 : decode cX9_loopsFrom 4 = .ok (.iconst 1, 1) := by decide +kernel
theorem dX9_loopsFrom_5 : decode cX9_loopsFrom 5 = .ok (.istore_n 3, 1) := by decide +kernel
theorem dX9_loopsFrom_6 : decode cX9_loopsFrom 6 = .ok (.aload_n 0, 1) := by decide +kernel
theorem dX9_loopsFrom_7 : decode cX9_loopsFrom 7 = .ok (.getfield 82, 3) := by decide +kernel
theorem dX9_loopsFrom_10 : decode cX9_loopsFrom 10 = .ok (.iconst 0, 1) := by decide +kernel
theorem dX9_loopsFrom_11 : decode cX9_loopsFrom 11 = .ok (.iload_n 1, 1) := by decide +kernel
theorem dX9_loopsFrom_12 : decode cX9_loopsFrom 12 = .ok (.iastore, 1) := by decide +kernel
theorem dX9_loopsFrom_13 : decode cX9_loopsFrom 13 = .ok (.aload_n 0, 1) := by decide +kernel
theorem dX9_loopsFrom_14 : decode cX9_loopsFrom 14 = .ok (.getfield 85, 3) := by decide +kernel
theorem dX9_loopsFrom_17 : decode cX9_loopsFrom 17 = .ok (.iconst 0, 1) := by decide +kernel
theorem dX9_loopsFrom_18 : decode cX9_loopsFrom 18 = .ok (.iconst (-1), 1) := by decide +kernel
theorem dX9_loopsFrom_19 : decode cX9_loopsFrom 19 = .ok (.iastore, 1) := by decide +kernel
theorem dX9_loopsFrom_20 : decode cX9_loopsFrom 20 = .ok (.iload_n 3, 1) := by decide +kernel
theorem dX9_loopsFrom_21 : decode cX9_loopsFrom 21 = .ok (.ifCond .le 194, 3) := by decide +kernel
theorem dX9_loopsFrom_24 : decode cX9_loopsFrom 24 = .ok (.aload_n 0, 1) := by decide +kernel
theorem dX9_loopsFrom_25 : decode cX9_loopsFrom 25 = .ok (.getfield 82, 3) := by decide +kernel
theorem dX9_loopsFrom_28 : decode cX9_loopsFrom 28 = .ok (.iload_n 3, 1) := by decide +kernel
theorem dX9_loopsFrom_29 : decode cX9_loopsFrom 29 = .ok (.iconst 1, 1) := by decide +kernel
theorem dX9_loopsFrom_30 : decode cX9_loopsFrom 30 = .ok (.isub, 1) := by decide +kernel
theorem dX9_loopsFrom_31 : decode cX9_loopsFrom 31 = .ok (.iaload, 1) := by decide +kernel
theorem dX9_loopsFrom_32 : decode cX9_loopsFrom 32 = .ok (.istore 4, 2) := by decide +kernel
theorem dX9_loopsFrom_34 : decode cX9_loopsFrom 34 = .ok (.aload_n 0, 1) := by decide +kernel
theorem dX9_loopsFrom_35 : decode cX9_loopsFrom 35 = .ok (.getfield 85, 3) := by decide +kernel
theorem dX9_loopsFrom_38 : decode cX9_loopsFrom 38 = .ok (.iload_n 3, 1) := by decide +kernel
theorem dX9_loopsFrom_39 : decode cX9_loopsFrom 39 = .ok (.iconst 1, 1) := by decide +kernel
theorem dX9_loopsFrom_40 : decode cX9_loopsFrom 40 = .ok (.isub, 1) := by decide +kernel
theorem dX9_loopsFrom_41 : decode cX9_loopsFrom 41 = .ok (.iaload, 1) := by decide +kernel
theorem dX9_loopsFrom_42 : decode cX9_loopsFrom 42 = .ok (.iconst 1, 1) := by decide +kernel
theorem dX9_loopsFrom_43 : decode cX9_loopsFrom 43 = .ok (.iadd, 1) := by decide +kernel
theorem dX9_loopsFrom_44 : decode cX9_loopsFrom 44 = .ok (.istore 5, 2) := by decide +kernel
theorem dX9_loopsFrom_46 : decode cX9_loopsFrom 46 = .ok (.iload 5, 2) := by decide +kernel
theorem dX9_loopsFrom_48 : decode cX9_loopsFrom 48 = .ok (.aload_n 0, 1) := by decide +kernel
theorem dX9_loopsFrom_49 : decode cX9_loopsFrom 49 = .ok (.invokevirtual 236, 3) := by decide +kernel
theorem dX9_loopsFrom_52 : decode cX9_loopsFrom 52 = .ok (.if_icmp .ge 72, 3) := by decide +kernel
theorem dX9_loopsFrom_55 : decode cX9_loopsFrom 55 = .ok (.aload_n 0, 1) := by decide +kernel
theorem dX9_loopsFrom_56 : decode cX9_loopsFrom 56 = .ok (.getfield 47, 3) := by decide +kernel
theorem dX9_loopsFrom_59 : decode cX9_loopsFrom 59 = .ok (.iload 5, 2) := by decide +kernel
theorem dX9_loopsFrom_61 : decode cX9_loopsFrom 61 = .ok (.iaload, 1) := by decide +kernel
theorem dX9_loopsFrom_62 : decode cX9_loopsFrom 62 = .ok (.iload 4, 2) := by decide +kernel
theorem dX9_loopsFrom_64 : decode cX9_loopsFrom 64 = .ok (.if_icmp .ne 54, 3) := by decide +kernel
theorem dX9_loopsFrom_67 : decode cX9_loopsFrom 67 = .ok (.aload_n 0, 1) := by decide +kernel
theorem dX9_loopsFrom_68 : decode cX9_loopsFrom 68 = .ok (.aload_n 0, 1) := by decide +kernel
theorem dX9_loopsFrom_69 : decode cX9_loopsFrom 69 = .ok (.getfield 50, 3) := by decide +kernel
theorem dX9_loopsFrom_72 : decode cX9_loopsFrom 72 = .ok (.iload 5, 2) := by decide +kernel
theorem dX9_loopsFrom_74 : decode cX9_loopsFrom 74 = .ok (.iaload, 1) := by decide +kernel
theorem dX9_loopsFrom_75 : decode cX9_loopsFrom 75 = .ok (.invokevirtual 281, 3) := by decide +kernel
theorem dX9_loopsFrom_78 : decode cX9_loopsFrom 78 = .ok (.ifCond .ne 40, 3) := by decide +kernel
theorem dX9_loopsFrom_81 : decode cX9_loopsFrom 81 = .ok (.aload_n 0, 1) := by decide +kernel
theorem dX9_loopsFrom_82 : decode cX9_loopsFrom 82 = .ok (.getfield 50, 3) := by decide +kernel
theorem dX9_loopsFrom_85 : decode cX9_loopsFrom 85 = .ok (.iload 5, 2) := by decide +kernel
theorem dX9_loopsFrom_87 : decode cX9_loopsFrom 87 = .ok (.iaload, 1) := by decide +kernel
theorem dX9_loopsFrom_88 : decode cX9_loopsFrom 88 = .ok (.iload_n 1, 1) := by decide +kernel
theorem dX9_loopsFrom_89 : decode cX9_loopsFrom 89 = .ok (.if_icmp .lt 29, 3) := by decide +kernel
theorem dX9_loopsFrom_92 : decode cX9_loopsFrom 92 = .ok (.aload_n 0, 1) := by decide +kernel
theorem dX9_loopsFrom_93 : decode cX9_loopsFrom 93 = .ok (.getfield 50, 3) := by decide +kernel
theorem dX9_loopsFrom_96 : decode cX9_loopsFrom 96 = .ok (.iload 5, 2) := by decide +kernel
theorem dX9_loopsFrom_98 : decode cX9_loopsFrom 98 = .ok (.iaload, 1) := by decide +kernel
theorem dX9_loopsFrom_99 : decode cX9_loopsFrom 99 = .ok (.iload_n 1, 1) := by decide +kernel
theorem dX9_loopsFrom_100 : decode cX9_loopsFrom 100 = .ok (.if_icmp .eq 24, 3) := by decide +kernel
theorem dX9_loopsFrom_103 : decode cX9_loopsFrom 103 = .ok (.iload_n 2, 1) := by decide +kernel
theorem dX9_loopsFrom_104 : decode cX9_loopsFrom 104 = .ok (.aload_n 0, 1) := by decide +kernel
theorem dX9_loopsFrom_105 : decode cX9_loopsFrom 105 = .ok (.getfield 50, 3) := by decide +kernel
theorem dX9_loopsFrom_108 : decode cX9_loopsFrom 108 = .ok (.iload 5, 2) := by decide +kernel
theorem dX9_loopsFrom_110 : decode cX9_loopsFrom 110 = .ok (.iaload, 1) := by decide +kernel
theorem dX9_loopsFrom_111 : decode cX9_loopsFrom 111 = .ok (.ishr, 1) := by decide +kernel
theorem dX9_loopsFrom_112 : decode cX9_loopsFrom 112 = .ok (.iconst 1, 1) := by decide +kernel
theorem dX9_loopsFrom_113 : decode cX9_loopsFrom 113 = .ok (.iand, 1) := by decide +kernel
theorem dX9_loopsFrom_114 : decode cX9_loopsFrom 114 = .ok (.iconst 1, 1) := by decide +kernel
theorem dX9_loopsFrom_115 : decode cX9_loopsFrom 115 = .ok (.if_icmp .ne 9, 3) := by decide +kernel
theorem dX9_loopsFrom_118 : decode cX9_loopsFrom 118 = .ok (.iinc 5 1, 3) := by decide +kernel
theorem dX9_loopsFrom_121 : decode cX9_loopsFrom 121 = .ok (.goto (-75), 3) := by decide +kernel
theorem dX9_loopsFrom_124 : decode cX9_loopsFrom 124 = .ok (.aload_n 0, 1) := by decide +kernel
theorem dX9_loopsFrom_125 : decode cX9_loopsFrom 125 = .ok (.getfield 85, 3) := by decide +kernel
theorem dX9_loopsFrom_128 : decode cX9_loopsFrom 128 = .ok (.iload_n 3, 1) := by decide +kernel
theorem dX9_loopsFrom_129 : decode cX9_loopsFrom 129 = .ok (.iconst 1, 1) := by decide +kernel
theorem dX9_loopsFrom_130 : decode cX9_loopsFrom 130 = .ok (.isub, 1) := by decide +kernel
theorem dX9_loopsFrom_131 : decode cX9_loopsFrom 131 = .ok (.iload 5, 2) := by decide +kernel
theorem dX9_loopsFrom_133 : decode cX9_loopsFrom 133 = .ok (.iastore, 1) := by decide +kernel
theorem dX9_loopsFrom_134 : decode cX9_loopsFrom 134 = .ok (.iload 5, 2) := by decide +kernel
theorem dX9_loopsFrom_136 : decode cX9_loopsFrom 136 = .ok (.aload_n 0, 1) := by decide +kernel
theorem dX9_loopsFrom_137 : decode cX9_loopsFrom 137 = .ok (.invokevirtual 236, 3) := by decide +kernel
theorem dX9_loopsFrom_140 : decode cX9_loopsFrom 140 = .ok (.if_icmp .lt 18, 3) := by decide +kernel
theorem dX9_loopsFrom_143 : decode cX9_loopsFrom 143 = .ok (.iload_n 2, 1) := by decide +kernel
theorem dX9_loopsFrom_144 : decode cX9_loopsFrom 144 = .ok (.iconst 1, 1) := by decide +kernel
theorem dX9_loopsFrom_145 : decode cX9_loopsFrom 145 = .ok (.iload 4, 2) := by decide +kernel
theorem dX9_loopsFrom_147 : decode cX9_loopsFrom 147 = .ok (.ishl, 1) := by decide +kernel
theorem dX9_loopsFrom_148 : decode cX9_loopsFrom 148 = .ok (.iconst (-1), 1) := by decide +kernel
theorem dX9_loopsFrom_149 : decode cX9_loopsFrom 149 = .ok (.ixor, 1) := by decide +kernel
theorem dX9_loopsFrom_150 : decode cX9_loopsFrom 150 = .ok (.iand, 1) := by decide +kernel
theorem dX9_loopsFrom_151 : decode cX9_loopsFrom 151 = .ok (.istore_n 2, 1) := by decide +kernel
theorem dX9_loopsFrom_152 : decode cX9_loopsFrom 152 = .ok (.iinc 3 (-1), 3) := by decide +kernel
theorem dX9_loopsFrom_155 : decode cX9_loopsFrom 155 = .ok (.goto 57, 3) := by decide +kernel
theorem dX9_loopsFrom_158 : decode cX9_loopsFrom 158 = .ok (.aload_n 0, 1) := by decide +kernel
theorem dX9_loopsFrom_159 : decode cX9_loopsFrom 159 = .ok (.getfield 50, 3) := by decide +kernel
theorem dX9_loopsFrom_162 : decode cX9_loopsFrom 162 = .ok (.iload 5, 2) := by decide +kernel
theorem dX9_loopsFrom_164 : decode cX9_loopsFrom 164 = .ok (.iaload, 1) := by decide +kernel
theorem dX9_loopsFrom_165 : decode cX9_loopsFrom 165 = .ok (.iload_n 1, 1) := by decide +kernel
theorem dX9_loopsFrom_166 : decode cX9_loopsFrom 166 = .ok (.if_icmp .ne 11, 3) := by decide +kernel
theorem dX9_loopsFrom_169 : decode cX9_loopsFrom 169 = .ok (.aload_n 0, 1) := by decide +kernel
theorem dX9_loopsFrom_170 : decode cX9_loopsFrom 170 = .ok (.iload_n 3, 1) := by decide +kernel
theorem dX9_loopsFrom_171 : decode cX9_loopsFrom 171 = .ok (.invokevirtual 353, 3) := by decide +kernel
theorem dX9_loopsFrom_174 : decode cX9_loopsFrom 174 = .ok (.goto 38, 3) := by decide +kernel
theorem dX9_loopsFrom_177 : decode cX9_loopsFrom 177 = .ok (.aload_n 0, 1) := by decide +kernel
theorem dX9_loopsFrom_178 : decode cX9_loopsFrom 178 = .ok (.getfield 82, 3) := by decide +kernel
theorem dX9_loopsFrom_181 : decode cX9_loopsFrom 181 = .ok (.iload_n 3, 1) := by decide +kernel
theorem dX9_loopsFrom_182 : decode cX9_loopsFrom 182 = .ok (.aload_n 0, 1) := by decide +kernel
theorem dX9_loopsFrom_183 : decode cX9_loopsFrom 183 = .ok (.getfield 50, 3) := by decide +kernel
theorem dX9_loopsFrom_186 : decode cX9_loopsFrom 186 = .ok (.iload 5, 2) := by decide +kernel
theorem dX9_loopsFrom_188 : decode cX9_loopsFrom 188 = .ok (.iaload, 1) := by decide +kernel
theorem dX9_loopsFrom_189 : decode cX9_loopsFrom 189 = .ok (.iastore, 1) := by decide +kernel
theorem dX9_loopsFrom_190 : decode cX9_loopsFrom 190 = .ok (.aload_n 0, 1) := by decide +kernel
theorem dX9_loopsFrom_191 : decode cX9_loopsFrom 191 = .ok (.getfield 85, 3) := by decide +kernel
theorem dX9_loopsFrom_194 : decode cX9_loopsFrom 194 = .ok (.iload_n 3, 1) := by decide +kernel
theorem dX9_loopsFrom_195 : decode cX9_loopsFrom 195 = .ok (.iconst (-1), 1) := by decide +kernel
theorem dX9_loopsFrom_196 : decode cX9_loopsFrom 196 = .ok (.iastore, 1) := by decide +kernel
theorem dX9_loopsFrom_197 : decode cX9_loopsFrom 197 = .ok (.iload_n 2, 1) := by decide +kernel
theorem dX9_loopsFrom_198 : decode cX9_loopsFrom 198 = .ok (.iconst 1, 1) := by decide +kernel
theorem dX9_loopsFrom_199 : decode cX9_loopsFrom 199 = .ok (.aload_n 0, 1) := by decide +kernel
theorem dX9_loopsFrom_200 : decode cX9_loopsFrom 200 = .ok (.getfield 50, 3) := by decide +kernel
theorem dX9_loopsFrom_203 : decode cX9_loopsFrom 203 = .ok (.iload 5, 2) := by decide +kernel
theorem dX9_loopsFrom_205 : decode cX9_loopsFrom 205 = .ok (.iaload, 1) := by decide +kernel
theorem dX9_loopsFrom_206 : decode cX9_loopsFrom 206 = .ok (.ishl, 1) := by decide +kernel
theorem dX9_loopsFrom_207 : decode cX9_loopsFrom 207 = .ok (.ior, 1) := by decide +kernel
theorem dX9_loopsFrom_208 : decode cX9_loopsFrom 208 = .ok (.istore_n 2, 1) := by decide +kernel
theorem dX9_loopsFrom_209 : decode cX9_loopsFrom 209 = .ok (.iinc 3 1, 3) := by decide +kernel
theorem dX9_loopsFrom_212 : decode cX9_loopsFrom 212 = .ok (.goto (-192), 3) := by decide +kernel
theorem dX9_loopsFrom_215 : decode cX9_loopsFrom 215 = .ok (.return_, 1) := by decide +kernel
theorem dX9_laysLoops_0 : decode cX9_laysLoops 0 = .ok (.aload_n 0, 1) := by decide +kernel
theorem dX9_laysLoops_1 : decode cX9_laysLoops 1 = .ok (.iconst 0, 1) := by decide +kernel
theorem dX9_laysLoops_2 : decode cX9_laysLoops 2 = .ok (.putfield 340, 3) := by decide +kernel
theorem dX9_laysLoops_5 : decode cX9_laysLoops 5 = .ok (.aload_n 0, 1) := by decide +kernel
theorem dX9_laysLoops_6 : decode cX9_laysLoops 6 = .ok (.lconst 0, 1) := by decide +kernel
theorem dX9_laysLoops_7 : decode cX9_laysLoops 7 = .ok (.putfield 347, 3) := by decide +kernel
theorem dX9_laysLoops_10 : decode cX9_laysLoops 10 = .ok (.aload_n 0, 1) := by decide +kernel
theorem dX9_laysLoops_11 : decode cX9_laysLoops 11 = .ok (.lconst 1, 1) := by decide +kernel
theorem dX9_laysLoops_12 : decode cX9_laysLoops 12 = .ok (.putfield 343, 3) := by decide +kernel
theorem dX9_laysLoops_15 : decode cX9_laysLoops 15 = .ok (.iconst 0, 1) := by decide +kernel
theorem dX9_laysLoops_16 : decode cX9_laysLoops 16 = .ok (.istore_n 1, 1) := by decide +kernel
theorem dX9_laysLoops_17 : decode cX9_laysLoops 17 = .ok (.iload_n 1, 1) := by decide +kernel
theorem dX9_laysLoops_18 : decode cX9_laysLoops 18 = .ok (.aload_n 0, 1) := by decide +kernel
theorem dX9_laysLoops_19 : decode cX9_laysLoops 19 = .ok (.invokevirtual 233, 3) := by decide +kernel
theorem dX9_laysLoops_22 : decode cX9_laysLoops 22 = .ok (.if_icmp .ge 22, 3) := by decide +kernel
theorem dX9_laysLoops_25 : decode cX9_laysLoops 25 = .ok (.aload_n 0, 1) := by decide +kernel
theorem dX9_laysLoops_26 : decode cX9_laysLoops 26 = .ok (.iload_n 1, 1) := by decide +kernel
theorem dX9_laysLoops_27 : decode cX9_laysLoops 27 = .ok (.invokevirtual 281, 3) := by decide +kernel
theorem dX9_laysLoops_30 : decode cX9_laysLoops 30 = .ok (.ifCond .ne 8, 3) := by decide +kernel
theorem dX9_laysLoops_33 : decode cX9_laysLoops 33 = .ok (.aload_n 0, 1) := by decide +kernel
theorem dX9_laysLoops_34 : decode cX9_laysLoops 34 = .ok (.iload_n 1, 1) := by decide +kernel
theorem dX9_laysLoops_35 : decode cX9_laysLoops 35 = .ok (.invokevirtual 356, 3) := by decide +kernel
theorem dX9_laysLoops_38 : decode cX9_laysLoops 38 = .ok (.iinc 1 1, 3) := by decide +kernel
theorem dX9_laysLoops_41 : decode cX9_laysLoops 41 = .ok (.goto (-24), 3) := by decide +kernel
theorem dX9_laysLoops_44 : decode cX9_laysLoops 44 = .ok (.return_, 1) := by decide +kernel
theorem dX9_ratio_0 : decode cX9_ratio 0 = .ok (.aload_n 0, 1) := by decide +kernel
theorem dX9_ratio_1 : decode cX9_ratio 1 = .ok (.iconst 0, 1) := by decide +kernel
theorem dX9_ratio_2 : decode cX9_ratio 2 = .ok (.putfield 103, 3) := by decide +kernel
theorem dX9_ratio_5 : decode cX9_ratio 5 = .ok (.aload_n 0, 1) := by decide +kernel
theorem dX9_ratio_6 : decode cX9_ratio 6 = .ok (.invokevirtual 359, 3) := by decide +kernel
theorem dX9_ratio_9 : decode cX9_ratio 9 = .ok (.aload_n 0, 1) := by decide +kernel
theorem dX9_ratio_10 : decode cX9_ratio 10 = .ok (.getfield 347, 3) := by decide +kernel
theorem dX9_ratio_13 : decode cX9_ratio 13 = .ok (.aload_n 0, 1) := by decide +kernel
theorem dX9_ratio_14 : decode cX9_ratio 14 = .ok (.getfield 343, 3) := by decide +kernel
theorem dX9_ratio_17 : decode cX9_ratio 17 = .ok (.invokestatic 362, 3) := by decide +kernel
theorem dX9_ratio_20 : decode cX9_ratio 20 = .ok (.lstore_n 2, 1) := by decide +kernel
theorem dX9_ratio_21 : decode cX9_ratio 21 = .ok (.iload_n 1, 1) := by decide +kernel
theorem dX9_ratio_22 : decode cX9_ratio 22 = .ok (.ifCond .eq 12, 3) := by decide +kernel
theorem dX9_ratio_25 : decode cX9_ratio 25 = .ok (.aload_n 0, 1) := by decide +kernel
theorem dX9_ratio_26 : decode cX9_ratio 26 = .ok (.getfield 343, 3) := by decide +kernel
theorem dX9_ratio_29 : decode cX9_ratio 29 = .ok (.lload_n 2, 1) := by decide +kernel
theorem dX9_ratio_30 : decode cX9_ratio 30 = .ok (.ldiv, 1) := by decide +kernel
theorem dX9_ratio_31 : decode cX9_ratio 31 = .ok (.goto 9, 3) := by decide +kernel
theorem dX9_ratio_34 : decode cX9_ratio 34 = .ok (.aload_n 0, 1) := by decide +kernel
theorem dX9_ratio_35 : decode cX9_ratio 35 = .ok (.getfield 347, 3) := by decide +kernel
theorem dX9_ratio_38 : decode cX9_ratio 38 = .ok (.lload_n 2, 1) := by decide +kernel
theorem dX9_ratio_39 : decode cX9_ratio 39 = .ok (.ldiv, 1) := by decide +kernel
theorem dX9_ratio_40 : decode cX9_ratio 40 = .ok (.lreturn, 1) := by decide +kernel
theorem dX9_loop_0 : decode cX9_loop 0 = .ok (.aload_n 0, 1) := by decide +kernel
theorem dX9_loop_1 : decode cX9_loop 1 = .ok (.iconst 0, 1) := by decide +kernel
theorem dX9_loop_2 : decode cX9_loop 2 = .ok (.putfield 103, 3) := by decide +kernel
theorem dX9_loop_5 : decode cX9_loop 5 = .ok (.iload_n 1, 1) := by decide +kernel
theorem dX9_loop_6 : decode cX9_loop 6 = .ok (.ifCond .ge 5, 3) := by decide +kernel
theorem dX9_loop_9 : decode cX9_loop 9 = .ok (.iconst (-1), 1) := by decide +kernel
theorem dX9_loop_10 : decode cX9_loop 10 = .ok (.ireturn, 1) := by decide +kernel
theorem dX9_loop_11 : decode cX9_loop 11 = .ok (.aload_n 0, 1) := by decide +kernel
theorem dX9_loop_12 : decode cX9_loop 12 = .ok (.invokevirtual 359, 3) := by decide +kernel
theorem dX9_loop_15 : decode cX9_loop 15 = .ok (.iload_n 1, 1) := by decide +kernel
theorem dX9_loop_16 : decode cX9_loop 16 = .ok (.aload_n 0, 1) := by decide +kernel
theorem dX9_loop_17 : decode cX9_loop 17 = .ok (.getfield 340, 3) := by decide +kernel
theorem dX9_loop_20 : decode cX9_loop 20 = .ok (.if_icmp .ge 12, 3) := by decide +kernel
theorem dX9_loop_23 : decode cX9_loop 23 = .ok (.aload_n 0, 1) := by decide +kernel
theorem dX9_loop_24 : decode cX9_loop 24 = .ok (.getfield 88, 3) := by decide +kernel
theorem dX9_loop_27 : decode cX9_loop 27 = .ok (.iload_n 1, 1) := by decide +kernel
theorem dX9_loop_28 : decode cX9_loop 28 = .ok (.iaload, 1) := by decide +kernel
theorem dX9_loop_29 : decode cX9_loop 29 = .ok (.goto 5, 3) := by decide +kernel
theorem dX9_loop_32 : decode cX9_loop 32 = .ok (.bipush (-2), 2) := by decide +kernel
theorem dX9_loop_34 : decode cX9_loop 34 = .ok (.ireturn, 1) := by decide +kernel
theorem dX9_leastNow_0 : decode cX9_leastNow 0 = .ok (.aload_n 0, 1) := by decide +kernel
theorem dX9_leastNow_1 : decode cX9_leastNow 1 = .ok (.getfield 63, 3) := by decide +kernel
theorem dX9_leastNow_4 : decode cX9_leastNow 4 = .ok (.iconst 0, 1) := by decide +kernel
theorem dX9_leastNow_5 : decode cX9_leastNow 5 = .ok (.iaload, 1) := by decide +kernel
theorem dX9_leastNow_6 : decode cX9_leastNow 6 = .ok (.istore_n 1, 1) := by decide +kernel
theorem dX9_leastNow_7 : decode cX9_leastNow 7 = .ok (.iconst 0, 1) := by decide +kernel
theorem dX9_leastNow_8 : decode cX9_leastNow 8 = .ok (.istore_n 2, 1) := by decide +kernel
theorem dX9_leastNow_9 : decode cX9_leastNow 9 = .ok (.sipush 10000, 3) := by decide +kernel
theorem dX9_leastNow_12 : decode cX9_leastNow 12 = .ok (.istore_n 3, 1) := by decide +kernel
theorem dX9_leastNow_13 : decode cX9_leastNow 13 = .ok (.iload_n 3, 1) := by decide +kernel
theorem dX9_leastNow_14 : decode cX9_leastNow 14 = .ok (.iload_n 2, 1) := by decide +kernel
theorem dX9_leastNow_15 : decode cX9_leastNow 15 = .ok (.isub, 1) := by decide +kernel
theorem dX9_leastNow_16 : decode cX9_leastNow 16 = .ok (.iconst 1, 1) := by decide +kernel
theorem dX9_leastNow_17 : decode cX9_leastNow 17 = .ok (.if_icmp .le 37, 3) := by decide +kernel
theorem dX9_leastNow_20 : decode cX9_leastNow 20 = .ok (.iload_n 2, 1) := by decide +kernel
theorem dX9_leastNow_21 : decode cX9_leastNow 21 = .ok (.iload_n 3, 1) := by decide +kernel
theorem dX9_leastNow_22 : decode cX9_leastNow 22 = .ok (.iadd, 1) := by decide +kernel
theorem dX9_leastNow_23 : decode cX9_leastNow 23 = .ok (.iconst 2, 1) := by decide +kernel
theorem dX9_leastNow_24 : decode cX9_leastNow 24 = .ok (.idiv, 1) := by decide +kernel
theorem dX9_leastNow_25 : decode cX9_leastNow 25 = .ok (.istore 4, 2) := by decide +kernel
theorem dX9_leastNow_27 : decode cX9_leastNow 27 = .ok (.aload_n 0, 1) := by decide +kernel
theorem dX9_leastNow_28 : decode cX9_leastNow 28 = .ok (.getfield 63, 3) := by decide +kernel
theorem dX9_leastNow_31 : decode cX9_leastNow 31 = .ok (.iconst 0, 1) := by decide +kernel
theorem dX9_leastNow_32 : decode cX9_leastNow 32 = .ok (.iload 4, 2) := by decide +kernel
theorem dX9_leastNow_34 : decode cX9_leastNow 34 = .ok (.iastore, 1) := by decide +kernel
theorem dX9_leastNow_35 : decode cX9_leastNow 35 = .ok (.aload_n 0, 1) := by decide +kernel
theorem dX9_leastNow_36 : decode cX9_leastNow 36 = .ok (.invokevirtual 328, 3) := by decide +kernel
theorem dX9_leastNow_39 : decode cX9_leastNow 39 = .ok (.ifCond .eq 9, 3) := by decide +kernel
theorem dX9_leastNow_42 : decode cX9_leastNow 42 = .ok (.iload 4, 2) := by decide +kernel
theorem dX9_leastNow_44 : decode cX9_leastNow 44 = .ok (.istore_n 3, 1) := by decide +kernel
theorem dX9_leastNow_45 : decode cX9_leastNow 45 = .ok (.goto 6, 3) := by decide +kernel
theorem dX9_leastNow_48 : decode cX9_leastNow 48 = .ok (.iload 4, 2) := by decide +kernel
theorem dX9_leastNow_50 : decode cX9_leastNow 50 = .ok (.istore_n 2, 1) := by decide +kernel
theorem dX9_leastNow_51 : decode cX9_leastNow 51 = .ok (.goto (-38), 3) := by decide +kernel
theorem dX9_leastNow_54 : decode cX9_leastNow 54 = .ok (.aload_n 0, 1) := by decide +kernel
theorem dX9_leastNow_55 : decode cX9_leastNow 55 = .ok (.getfield 63, 3) := by decide +kernel
theorem dX9_leastNow_58 : decode cX9_leastNow 58 = .ok (.iconst 0, 1) := by decide +kernel
theorem dX9_leastNow_59 : decode cX9_leastNow 59 = .ok (.iload_n 1, 1) := by decide +kernel
theorem dX9_leastNow_60 : decode cX9_leastNow 60 = .ok (.iastore, 1) := by decide +kernel
theorem dX9_leastNow_61 : decode cX9_leastNow 61 = .ok (.iload_n 3, 1) := by decide +kernel
theorem dX9_leastNow_62 : decode cX9_leastNow 62 = .ok (.sipush 9999, 3) := by decide +kernel
theorem dX9_leastNow_65 : decode cX9_leastNow 65 = .ok (.if_icmp .le 8, 3) := by decide +kernel
theorem dX9_leastNow_68 : decode cX9_leastNow 68 = .ok (.bipush (-2), 2) := by decide +kernel
theorem dX9_leastNow_70 : decode cX9_leastNow 70 = .ok (.goto 4, 3) := by decide +kernel
theorem dX9_leastNow_73 : decode cX9_leastNow 73 = .ok (.iload_n 3, 1) := by decide +kernel
theorem dX9_leastNow_74 : decode cX9_leastNow 74 = .ok (.ireturn, 1) := by decide +kernel
theorem dX9_leastPeriod_0 : decode cX9_leastPeriod 0 = .ok (.aload_n 0, 1) := by decide +kernel
theorem dX9_leastPeriod_1 : decode cX9_leastPeriod 1 = .ok (.iconst 0, 1) := by decide +kernel
theorem dX9_leastPeriod_2 : decode cX9_leastPeriod 2 = .ok (.putfield 103, 3) := by decide +kernel
theorem dX9_leastPeriod_5 : decode cX9_leastPeriod 5 = .ok (.aload_n 0, 1) := by decide +kernel
theorem dX9_leastPeriod_6 : decode cX9_leastPeriod 6 = .ok (.invokevirtual 366, 3) := by decide +kernel
theorem dX9_leastPeriod_9 : decode cX9_leastPeriod 9 = .ok (.ireturn, 1) := by decide +kernel
theorem dX9_slower_0 : decode cX9_slower 0 = .ok (.aload_n 0, 1) := by decide +kernel
theorem dX9_slower_1 : decode cX9_slower 1 = .ok (.iconst 0, 1) := by decide +kernel
theorem dX9_slower_2 : decode cX9_slower 2 = .ok (.putfield 103, 3) := by decide +kernel
theorem dX9_slower_5 : decode cX9_slower 5 = .ok (.aload_n 0, 1) := by decide +kernel
theorem dX9_slower_6 : decode cX9_slower 6 = .ok (.iload_n 1, 1) := by decide +kernel
theorem dX9_slower_7 : decode cX9_slower 7 = .ok (.invokevirtual 265, 3) := by decide +kernel
theorem dX9_slower_10 : decode cX9_slower 10 = .ok (.ifCond .ne 5, 3) := by decide +kernel
theorem dX9_slower_13 : decode cX9_slower 13 = .ok (.iconst (-1), 1) := by decide +kernel
theorem dX9_slower_14 : decode cX9_slower 14 = .ok (.ireturn, 1) := by decide +kernel
theorem dX9_slower_15 : decode cX9_slower 15 = .ok (.aload_n 0, 1) := by decide +kernel
theorem dX9_slower_16 : decode cX9_slower 16 = .ok (.getfield 63, 3) := by decide +kernel
theorem dX9_slower_19 : decode cX9_slower 19 = .ok (.bipush 19, 2) := by decide +kernel
theorem dX9_slower_21 : decode cX9_slower 21 = .ok (.iload_n 1, 1) := by decide +kernel
theorem dX9_slower_22 : decode cX9_slower 22 = .ok (.iadd, 1) := by decide +kernel
theorem dX9_slower_23 : decode cX9_slower 23 = .ok (.iaload, 1) := by decide +kernel
theorem dX9_slower_24 : decode cX9_slower 24 = .ok (.istore_n 2, 1) := by decide +kernel
theorem dX9_slower_25 : decode cX9_slower 25 = .ok (.sipush 999, 3) := by decide +kernel
theorem dX9_slower_28 : decode cX9_slower 28 = .ok (.istore_n 3, 1) := by decide +kernel
theorem dX9_slower_29 : decode cX9_slower 29 = .ok (.iconst 0, 1) := by decide +kernel
theorem dX9_slower_30 : decode cX9_slower 30 = .ok (.istore 4, 2) := by decide +kernel
theorem dX9_slower_32 : decode cX9_slower 32 = .ok (.iload 4, 2) := by decide +kernel
theorem dX9_slower_34 : decode cX9_slower 34 = .ok (.ifCond .ne 48, 3) := by decide +kernel
theorem dX9_slower_37 : decode cX9_slower 37 = .ok (.iload_n 3, 1) := by decide +kernel
theorem dX9_slower_38 : decode cX9_slower 38 = .ok (.aload_n 0, 1) := by decide +kernel
theorem dX9_slower_39 : decode cX9_slower 39 = .ok (.getfield 63, 3) := by decide +kernel
theorem dX9_slower_42 : decode cX9_slower 42 = .ok (.bipush 43, 2) := by decide +kernel
theorem dX9_slower_44 : decode cX9_slower 44 = .ok (.iload_n 1, 1) := by decide +kernel
theorem dX9_slower_45 : decode cX9_slower 45 = .ok (.iadd, 1) := by decide +kernel
theorem dX9_slower_46 : decode cX9_slower 46 = .ok (.iaload, 1) := by decide +kernel
theorem dX9_slower_47 : decode cX9_slower 47 = .ok (.if_icmp .lt 35, 3) := by decide +kernel
theorem dX9_slower_50 : decode cX9_slower 50 = .ok (.aload_n 0, 1) := by decide +kernel
theorem dX9_slower_51 : decode cX9_slower 51 = .ok (.getfield 63, 3) := by decide +kernel
theorem dX9_slower_54 : decode cX9_slower 54 = .ok (.bipush 19, 2) := by decide +kernel
theorem dX9_slower_56 : decode cX9_slower 56 = .ok (.iload_n 1, 1) := by decide +kernel
theorem dX9_slower_57 : decode cX9_slower 57 = .ok (.iadd, 1) := by decide +kernel
theorem dX9_slower_58 : decode cX9_slower 58 = .ok (.iload_n 3, 1) := by decide +kernel
theorem dX9_slower_59 : decode cX9_slower 59 = .ok (.iastore, 1) := by decide +kernel
theorem dX9_slower_60 : decode cX9_slower 60 = .ok (.aload_n 0, 1) := by decide +kernel
theorem dX9_slower_61 : decode cX9_slower 61 = .ok (.invokevirtual 328, 3) := by decide +kernel
theorem dX9_slower_64 : decode cX9_slower 64 = .ok (.istore 4, 2) := by decide +kernel
theorem dX9_slower_66 : decode cX9_slower 66 = .ok (.iload_n 3, 1) := by decide +kernel
theorem dX9_slower_67 : decode cX9_slower 67 = .ok (.iload 4, 2) := by decide +kernel
theorem dX9_slower_69 : decode cX9_slower 69 = .ok (.ifCond .eq 7, 3) := by decide +kernel
theorem dX9_slower_72 : decode cX9_slower 72 = .ok (.iconst 0, 1) := by decide +kernel
theorem dX9_slower_73 : decode cX9_slower 73 = .ok (.goto 4, 3) := by decide +kernel
theorem dX9_slower_76 : decode cX9_slower 76 = .ok (.iconst 1, 1) := by decide +kernel
theorem dX9_slower_77 : decode cX9_slower 77 = .ok (.isub, 1) := by decide +kernel
theorem dX9_slower_78 : decode cX9_slower 78 = .ok (.istore_n 3, 1) := by decide +kernel
theorem dX9_slower_79 : decode cX9_slower 79 = .ok (.goto (-47), 3) := by decide +kernel
theorem dX9_slower_82 : decode cX9_slower 82 = .ok (.aload_n 0, 1) := by decide +kernel
theorem dX9_slower_83 : decode cX9_slower 83 = .ok (.getfield 63, 3) := by decide +kernel
theorem dX9_slower_86 : decode cX9_slower 86 = .ok (.bipush 19, 2) := by decide +kernel
theorem dX9_slower_88 : decode cX9_slower 88 = .ok (.iload_n 1, 1) := by decide +kernel
theorem dX9_slower_89 : decode cX9_slower 89 = .ok (.iadd, 1) := by decide +kernel
theorem dX9_slower_90 : decode cX9_slower 90 = .ok (.iload_n 2, 1) := by decide +kernel
theorem dX9_slower_91 : decode cX9_slower 91 = .ok (.iastore, 1) := by decide +kernel
theorem dX9_slower_92 : decode cX9_slower 92 = .ok (.iload 4, 2) := by decide +kernel
theorem dX9_slower_94 : decode cX9_slower 94 = .ok (.ifCond .eq 7, 3) := by decide +kernel
theorem dX9_slower_97 : decode cX9_slower 97 = .ok (.iload_n 3, 1) := by decide +kernel
theorem dX9_slower_98 : decode cX9_slower 98 = .ok (.goto 5, 3) := by decide +kernel
theorem dX9_slower_101 : decode cX9_slower 101 = .ok (.bipush (-2), 2) := by decide +kernel
theorem dX9_slower_103 : decode cX9_slower 103 = .ok (.ireturn, 1) := by decide +kernel
theorem dX9_bestOpens_0 : decode cX9_bestOpens 0 = .ok (.aload_n 0, 1) := by decide +kernel
theorem dX9_bestOpens_1 : decode cX9_bestOpens 1 = .ok (.iconst 0, 1) := by decide +kernel
theorem dX9_bestOpens_2 : decode cX9_bestOpens 2 = .ok (.putfield 103, 3) := by decide +kernel
theorem dX9_bestOpens_5 : decode cX9_bestOpens 5 = .ok (.aload_n 0, 1) := by decide +kernel
theorem dX9_bestOpens_6 : decode cX9_bestOpens 6 = .ok (.iload_n 1, 1) := by decide +kernel
theorem dX9_bestOpens_7 : decode cX9_bestOpens 7 = .ok (.invokevirtual 262, 3) := by decide +kernel
theorem dX9_bestOpens_10 : decode cX9_bestOpens 10 = .ok (.ifCond .ne 5, 3) := by decide +kernel
theorem dX9_bestOpens_13 : decode cX9_bestOpens 13 = .ok (.iconst (-1), 1) := by decide +kernel
theorem dX9_bestOpens_14 : decode cX9_bestOpens 14 = .ok (.ireturn, 1) := by decide +kernel
theorem dX9_bestOpens_15 : decode cX9_bestOpens 15 = .ok (.aload_n 0, 1) := by decide +kernel
theorem dX9_bestOpens_16 : decode cX9_bestOpens 16 = .ok (.getfield 63, 3) := by decide +kernel
theorem dX9_bestOpens_19 : decode cX9_bestOpens 19 = .ok (.iconst 1, 1) := by decide +kernel
theorem dX9_bestOpens_20 : decode cX9_bestOpens 20 = .ok (.iload_n 1, 1) := by decide +kernel
theorem dX9_bestOpens_21 : decode cX9_bestOpens 21 = .ok (.iadd, 1) := by decide +kernel
theorem dX9_bestOpens_22 : decode cX9_bestOpens 22 = .ok (.iaload, 1) := by decide +kernel
theorem dX9_bestOpens_23 : decode cX9_bestOpens 23 = .ok (.istore_n 2, 1) := by decide +kernel
theorem dX9_bestOpens_24 : decode cX9_bestOpens 24 = .ok (.bipush (-2), 2) := by decide +kernel
theorem dX9_bestOpens_26 : decode cX9_bestOpens 26 = .ok (.istore_n 3, 1) := by decide +kernel
theorem dX9_bestOpens_27 : decode cX9_bestOpens 27 = .ok (.sipush 10000, 3) := by decide +kernel
theorem dX9_bestOpens_30 : decode cX9_bestOpens 30 = .ok (.istore 4, 2) := by decide +kernel
theorem dX9_bestOpens_32 : decode cX9_bestOpens 32 = .ok (.iconst 0, 1) := by decide +kernel
theorem dX9_bestOpens_33 : decode cX9_bestOpens 33 = .ok (.istore 5, 2) := by decide +kernel
theorem dX9_bestOpens_35 : decode cX9_bestOpens 35 = .ok (.iload 5, 2) := by decide +kernel
theorem dX9_bestOpens_37 : decode cX9_bestOpens 37 = .ok (.bipush 64, 2) := by decide +kernel
theorem dX9_bestOpens_39 : decode cX9_bestOpens 39 = .ok (.if_icmp .ge 49, 3) := by decide +kernel
theorem dX9_bestOpens_42 : decode cX9_bestOpens 42 = .ok (.aload_n 0, 1) := by decide +kernel
theorem dX9_bestOpens_43 : decode cX9_bestOpens 43 = .ok (.getfield 63, 3) := by decide +kernel
theorem dX9_bestOpens_46 : decode cX9_bestOpens 46 = .ok (.iconst 1, 1) := by decide +kernel
theorem dX9_bestOpens_47 : decode cX9_bestOpens 47 = .ok (.iload_n 1, 1) := by decide +kernel
theorem dX9_bestOpens_48 : decode cX9_bestOpens 48 = .ok (.iadd, 1) := by decide +kernel
theorem dX9_bestOpens_49 : decode cX9_bestOpens 49 = .ok (.iload 5, 2) := by decide +kernel
theorem dX9_bestOpens_51 : decode cX9_bestOpens 51 = .ok (.iastore, 1) := by decide +kernel
theorem dX9_bestOpens_52 : decode cX9_bestOpens 52 = .ok (.aload_n 0, 1) := by decide +kernel
theorem dX9_bestOpens_53 : decode cX9_bestOpens 53 = .ok (.invokevirtual 366, 3) := by decide +kernel
theorem dX9_bestOpens_56 : decode cX9_bestOpens 56 = .ok (.istore 6, 2) := by decide +kernel
theorem dX9_bestOpens_58 : decode cX9_bestOpens 58 = .ok (.iload 6, 2) := by decide +kernel
theorem dX9_bestOpens_60 : decode cX9_bestOpens 60 = .ok (.bipush (-2), 2) := by decide +kernel
theorem dX9_bestOpens_62 : decode cX9_bestOpens 62 = .ok (.if_icmp .eq 20, 3) := by decide +kernel
theorem dX9_bestOpens_65 : decode cX9_bestOpens 65 = .ok (.iload 6, 2) := by decide +kernel
theorem dX9_bestOpens_67 : decode cX9_bestOpens 67 = .ok (.iload 4, 2) := by decide +kernel
theorem dX9_bestOpens_69 : decode cX9_bestOpens 69 = .ok (.if_icmp .lt 6, 3) := by decide +kernel
theorem dX9_bestOpens_72 : decode cX9_bestOpens 72 = .ok (.goto 10, 3) := by decide +kernel
theorem dX9_bestOpens_75 : decode cX9_bestOpens 75 = .ok (.iload 5, 2) := by decide +kernel
theorem dX9_bestOpens_77 : decode cX9_bestOpens 77 = .ok (.istore_n 3, 1) := by decide +kernel
theorem dX9_bestOpens_78 : decode cX9_bestOpens 78 = .ok (.iload 6, 2) := by decide +kernel
theorem dX9_bestOpens_80 : decode cX9_bestOpens 80 = .ok (.istore 4, 2) := by decide +kernel
theorem dX9_bestOpens_82 : decode cX9_bestOpens 82 = .ok (.iinc 5 1, 3) := by decide +kernel
theorem dX9_bestOpens_85 : decode cX9_bestOpens 85 = .ok (.goto (-50), 3) := by decide +kernel
theorem dX9_bestOpens_88 : decode cX9_bestOpens 88 = .ok (.aload_n 0, 1) := by decide +kernel
theorem dX9_bestOpens_89 : decode cX9_bestOpens 89 = .ok (.getfield 63, 3) := by decide +kernel
theorem dX9_bestOpens_92 : decode cX9_bestOpens 92 = .ok (.iconst 1, 1) := by decide +kernel
theorem dX9_bestOpens_93 : decode cX9_bestOpens 93 = .ok (.iload_n 1, 1) := by decide +kernel
theorem dX9_bestOpens_94 : decode cX9_bestOpens 94 = .ok (.iadd, 1) := by decide +kernel
theorem dX9_bestOpens_95 : decode cX9_bestOpens 95 = .ok (.iload_n 2, 1) := by decide +kernel
theorem dX9_bestOpens_96 : decode cX9_bestOpens 96 = .ok (.iastore, 1) := by decide +kernel
theorem dX9_bestOpens_97 : decode cX9_bestOpens 97 = .ok (.iload_n 3, 1) := by decide +kernel
theorem dX9_bestOpens_98 : decode cX9_bestOpens 98 = .ok (.ireturn, 1) := by decide +kernel
theorem dX9_bestTwo_0 : decode cX9_bestTwo 0 = .ok (.aload_n 0, 1) := by decide +kernel
theorem dX9_bestTwo_1 : decode cX9_bestTwo 1 = .ok (.iconst 0, 1) := by decide +kernel
theorem dX9_bestTwo_2 : decode cX9_bestTwo 2 = .ok (.putfield 103, 3) := by decide +kernel
theorem dX9_bestTwo_5 : decode cX9_bestTwo 5 = .ok (.aload_n 0, 1) := by decide +kernel
theorem dX9_bestTwo_6 : decode cX9_bestTwo 6 = .ok (.iload_n 1, 1) := by decide +kernel
theorem dX9_bestTwo_7 : decode cX9_bestTwo 7 = .ok (.invokevirtual 262, 3) := by decide +kernel
theorem dX9_bestTwo_10 : decode cX9_bestTwo 10 = .ok (.ifCond .eq 16, 3) := by decide +kernel
theorem dX9_bestTwo_13 : decode cX9_bestTwo 13 = .ok (.aload_n 0, 1) := by decide +kernel
theorem dX9_bestTwo_14 : decode cX9_bestTwo 14 = .ok (.iload_n 2, 1) := by decide +kernel
theorem dX9_bestTwo_15 : decode cX9_bestTwo 15 = .ok (.invokevirtual 262, 3) := by decide +kernel
theorem dX9_bestTwo_18 : decode cX9_bestTwo 18 = .ok (.ifCond .eq 8, 3) := by decide +kernel
theorem dX9_bestTwo_21 : decode cX9_bestTwo 21 = .ok (.iload_n 1, 1) := by decide +kernel
theorem dX9_bestTwo_22 : decode cX9_bestTwo 22 = .ok (.iload_n 2, 1) := by decide +kernel
theorem dX9_bestTwo_23 : decode cX9_bestTwo 23 = .ok (.if_icmp .ne 5, 3) := by decide +kernel
theorem dX9_bestTwo_26 : decode cX9_bestTwo 26 = .ok (.iconst (-1), 1) := by decide +kernel
theorem dX9_bestTwo_27 : decode cX9_bestTwo 27 = .ok (.ireturn, 1) := by decide +kernel
theorem dX9_bestTwo_28 : decode cX9_bestTwo 28 = .ok (.aload_n 0, 1) := by decide +kernel
theorem dX9_bestTwo_29 : decode cX9_bestTwo 29 = .ok (.getfield 63, 3) := by decide +kernel
theorem dX9_bestTwo_32 : decode cX9_bestTwo 32 = .ok (.iconst 1, 1) := by decide +kernel
theorem dX9_bestTwo_33 : decode cX9_bestTwo 33 = .ok (.iload_n 1, 1) := by decide +kernel
theorem dX9_bestTwo_34 : decode cX9_bestTwo 34 = .ok (.iadd, 1) := by decide +kernel
theorem dX9_bestTwo_35 : decode cX9_bestTwo 35 = .ok (.iaload, 1) := by decide +kernel
theorem dX9_bestTwo_36 : decode cX9_bestTwo 36 = .ok (.istore_n 3, 1) := by decide +kernel
theorem dX9_bestTwo_37 : decode cX9_bestTwo 37 = .ok (.aload_n 0, 1) := by decide +kernel
theorem dX9_bestTwo_38 : decode cX9_bestTwo 38 = .ok (.getfield 63, 3) := by decide +kernel
theorem dX9_bestTwo_41 : decode cX9_bestTwo 41 = .ok (.iconst 1, 1) := by decide +kernel
theorem dX9_bestTwo_42 : decode cX9_bestTwo 42 = .ok (.iload_n 2, 1) := by decide +kernel
theorem dX9_bestTwo_43 : decode cX9_bestTwo 43 = .ok (.iadd, 1) := by decide +kernel
theorem dX9_bestTwo_44 : decode cX9_bestTwo 44 = .ok (.iaload, 1) := by decide +kernel
theorem dX9_bestTwo_45 : decode cX9_bestTwo 45 = .ok (.istore 4, 2) := by decide +kernel
theorem dX9_bestTwo_47 : decode cX9_bestTwo 47 = .ok (.bipush (-2), 2) := by decide +kernel
theorem dX9_bestTwo_49 : decode cX9_bestTwo 49 = .ok (.istore 5, 2) := by decide +kernel
theorem dX9_bestTwo_51 : decode cX9_bestTwo 51 = .ok (.sipush 10000, 3) := by decide +kernel
theorem dX9_bestTwo_54 : decode cX9_bestTwo 54 = .ok (.istore 6, 2) := by decide +kernel
theorem dX9_bestTwo_56 : decode cX9_bestTwo 56 = .ok (.iconst 0, 1) := by decide +kernel
theorem dX9_bestTwo_57 : decode cX9_bestTwo 57 = .ok (.istore 7, 2) := by decide +kernel
theorem dX9_bestTwo_59 : decode cX9_bestTwo 59 = .ok (.iload 7, 2) := by decide +kernel
theorem dX9_bestTwo_61 : decode cX9_bestTwo 61 = .ok (.sipush 4096, 3) := by decide +kernel
theorem dX9_bestTwo_64 : decode cX9_bestTwo 64 = .ok (.if_icmp .ge 66, 3) := by decide +kernel
theorem dX9_bestTwo_67 : decode cX9_bestTwo 67 = .ok (.aload_n 0, 1) := by decide +kernel
theorem dX9_bestTwo_68 : decode cX9_bestTwo 68 = .ok (.getfield 63, 3) := by decide +kernel
theorem dX9_bestTwo_71 : decode cX9_bestTwo 71 = .ok (.iconst 1, 1) := by decide +kernel
theorem dX9_bestTwo_72 : decode cX9_bestTwo 72 = .ok (.iload_n 1, 1) := by decide +kernel
theorem dX9_bestTwo_73 : decode cX9_bestTwo 73 = .ok (.iadd, 1) := by decide +kernel
theorem dX9_bestTwo_74 : decode cX9_bestTwo 74 = .ok (.iload 7, 2) := by decide +kernel
theorem dX9_bestTwo_76 : decode cX9_bestTwo 76 = .ok (.bipush 64, 2) := by decide +kernel
theorem dX9_bestTwo_78 : decode cX9_bestTwo 78 = .ok (.idiv, 1) := by decide +kernel
theorem dX9_bestTwo_79 : decode cX9_bestTwo 79 = .ok (.iastore, 1) := by decide +kernel
theorem dX9_bestTwo_80 : decode cX9_bestTwo 80 = .ok (.aload_n 0, 1) := by decide +kernel
theorem dX9_bestTwo_81 : decode cX9_bestTwo 81 = .ok (.getfield 63, 3) := by decide +kernel
theorem dX9_bestTwo_84 : decode cX9_bestTwo 84 = .ok (.iconst 1, 1) := by decide +kernel
theorem dX9_bestTwo_85 : decode cX9_bestTwo 85 = .ok (.iload_n 2, 1) := by decide +kernel
theorem dX9_bestTwo_86 : decode cX9_bestTwo 86 = .ok (.iadd, 1) := by decide +kernel
theorem dX9_bestTwo_87 : decode cX9_bestTwo 87 = .ok (.iload 7, 2) := by decide +kernel
theorem dX9_bestTwo_89 : decode cX9_bestTwo 89 = .ok (.bipush 64, 2) := by decide +kernel
theorem dX9_bestTwo_91 : decode cX9_bestTwo 91 = .ok (.irem, 1) := by decide +kernel
theorem dX9_bestTwo_92 : decode cX9_bestTwo 92 = .ok (.iastore, 1) := by decide +kernel
theorem dX9_bestTwo_93 : decode cX9_bestTwo 93 = .ok (.aload_n 0, 1) := by decide +kernel
theorem dX9_bestTwo_94 : decode cX9_bestTwo 94 = .ok (.invokevirtual 366, 3) := by decide +kernel
theorem dX9_bestTwo_97 : decode cX9_bestTwo 97 = .ok (.istore 8, 2) := by decide +kernel
theorem dX9_bestTwo_99 : decode cX9_bestTwo 99 = .ok (.iload 8, 2) := by decide +kernel
theorem dX9_bestTwo_101 : decode cX9_bestTwo 101 = .ok (.bipush (-2), 2) := by decide +kernel
theorem dX9_bestTwo_103 : decode cX9_bestTwo 103 = .ok (.if_icmp .eq 21, 3) := by decide +kernel
theorem dX9_bestTwo_106 : decode cX9_bestTwo 106 = .ok (.iload 8, 2) := by decide +kernel
theorem dX9_bestTwo_108 : decode cX9_bestTwo 108 = .ok (.iload 6, 2) := by decide +kernel
theorem dX9_bestTwo_110 : decode cX9_bestTwo 110 = .ok (.if_icmp .lt 6, 3) := by decide +kernel
theorem dX9_bestTwo_113 : decode cX9_bestTwo 113 = .ok (.goto 11, 3) := by decide +kernel
theorem dX9_bestTwo_116 : decode cX9_bestTwo 116 = .ok (.iload 7, 2) := by decide +kernel
theorem dX9_bestTwo_118 : decode cX9_bestTwo 118 = .ok (.istore 5, 2) := by decide +kernel
theorem dX9_bestTwo_120 : decode cX9_bestTwo 120 = .ok (.iload 8, 2) := by decide +kernel
theorem dX9_bestTwo_122 : decode cX9_bestTwo 122 = .ok (.istore 6, 2) := by decide +kernel
theorem dX9_bestTwo_124 : decode cX9_bestTwo 124 = .ok (.iinc 7 1, 3) := by decide +kernel
theorem dX9_bestTwo_127 : decode cX9_bestTwo 127 = .ok (.goto (-68), 3) := by decide +kernel
theorem dX9_bestTwo_130 : decode cX9_bestTwo 130 = .ok (.aload_n 0, 1) := by decide +kernel
theorem dX9_bestTwo_131 : decode cX9_bestTwo 131 = .ok (.getfield 63, 3) := by decide +kernel
theorem dX9_bestTwo_134 : decode cX9_bestTwo 134 = .ok (.iconst 1, 1) := by decide +kernel
theorem dX9_bestTwo_135 : decode cX9_bestTwo 135 = .ok (.iload_n 1, 1) := by decide +kernel
theorem dX9_bestTwo_136 : decode cX9_bestTwo 136 = .ok (.iadd, 1) := by decide +kernel
theorem dX9_bestTwo_137 : decode cX9_bestTwo 137 = .ok (.iload_n 3, 1) := by decide +kernel
theorem dX9_bestTwo_138 : decode cX9_bestTwo 138 = .ok (.iastore, 1) := by decide +kernel
theorem dX9_bestTwo_139 : decode cX9_bestTwo 139 = .ok (.aload_n 0, 1) := by decide +kernel
theorem dX9_bestTwo_140 : decode cX9_bestTwo 140 = .ok (.getfield 63, 3) := by decide +kernel
theorem dX9_bestTwo_143 : decode cX9_bestTwo 143 = .ok (.iconst 1, 1) := by decide +kernel
theorem dX9_bestTwo_144 : decode cX9_bestTwo 144 = .ok (.iload_n 2, 1) := by decide +kernel
theorem dX9_bestTwo_145 : decode cX9_bestTwo 145 = .ok (.iadd, 1) := by decide +kernel
theorem dX9_bestTwo_146 : decode cX9_bestTwo 146 = .ok (.iload 4, 2) := by decide +kernel
theorem dX9_bestTwo_148 : decode cX9_bestTwo 148 = .ok (.iastore, 1) := by decide +kernel
theorem dX9_bestTwo_149 : decode cX9_bestTwo 149 = .ok (.iload 5, 2) := by decide +kernel
theorem dX9_bestTwo_151 : decode cX9_bestTwo 151 = .ok (.ireturn, 1) := by decide +kernel
theorem dX9_gain_0 : decode cX9_gain 0 = .ok (.aload_n 0, 1) := by decide +kernel
theorem dX9_gain_1 : decode cX9_gain 1 = .ok (.iconst 0, 1) := by decide +kernel
theorem dX9_gain_2 : decode cX9_gain 2 = .ok (.putfield 103, 3) := by decide +kernel
theorem dX9_gain_5 : decode cX9_gain 5 = .ok (.aload_n 0, 1) := by decide +kernel
theorem dX9_gain_6 : decode cX9_gain 6 = .ok (.iload_n 1, 1) := by decide +kernel
theorem dX9_gain_7 : decode cX9_gain 7 = .ok (.invokevirtual 265, 3) := by decide +kernel
theorem dX9_gain_10 : decode cX9_gain 10 = .ok (.ifCond .ne 5, 3) := by decide +kernel
theorem dX9_gain_13 : decode cX9_gain 13 = .ok (.iconst (-1), 1) := by decide +kernel
theorem dX9_gain_14 : decode cX9_gain 14 = .ok (.ireturn, 1) := by decide +kernel
theorem dX9_gain_15 : decode cX9_gain 15 = .ok (.aload_n 0, 1) := by decide +kernel
theorem dX9_gain_16 : decode cX9_gain 16 = .ok (.invokevirtual 366, 3) := by decide +kernel
theorem dX9_gain_19 : decode cX9_gain 19 = .ok (.istore_n 2, 1) := by decide +kernel
theorem dX9_gain_20 : decode cX9_gain 20 = .ok (.iload_n 2, 1) := by decide +kernel
theorem dX9_gain_21 : decode cX9_gain 21 = .ok (.bipush (-2), 2) := by decide +kernel
theorem dX9_gain_23 : decode cX9_gain 23 = .ok (.if_icmp .ne 6, 3) := by decide +kernel
theorem dX9_gain_26 : decode cX9_gain 26 = .ok (.bipush (-2), 2) := by decide +kernel
theorem dX9_gain_28 : decode cX9_gain 28 = .ok (.ireturn, 1) := by decide +kernel
theorem dX9_gain_29 : decode cX9_gain 29 = .ok (.aload_n 0, 1) := by decide +kernel
theorem dX9_gain_30 : decode cX9_gain 30 = .ok (.getfield 63, 3) := by decide +kernel
theorem dX9_gain_33 : decode cX9_gain 33 = .ok (.bipush 19, 2) := by decide +kernel
theorem dX9_gain_35 : decode cX9_gain 35 = .ok (.iload_n 1, 1) := by decide +kernel
theorem dX9_gain_36 : decode cX9_gain 36 = .ok (.iadd, 1) := by decide +kernel
theorem dX9_gain_37 : decode cX9_gain 37 = .ok (.iaload, 1) := by decide +kernel
theorem dX9_gain_38 : decode cX9_gain 38 = .ok (.istore_n 3, 1) := by decide +kernel
theorem dX9_gain_39 : decode cX9_gain 39 = .ok (.aload_n 0, 1) := by decide +kernel
theorem dX9_gain_40 : decode cX9_gain 40 = .ok (.getfield 63, 3) := by decide +kernel
theorem dX9_gain_43 : decode cX9_gain 43 = .ok (.bipush 19, 2) := by decide +kernel
theorem dX9_gain_45 : decode cX9_gain 45 = .ok (.iload_n 1, 1) := by decide +kernel
theorem dX9_gain_46 : decode cX9_gain 46 = .ok (.iadd, 1) := by decide +kernel
theorem dX9_gain_47 : decode cX9_gain 47 = .ok (.aload_n 0, 1) := by decide +kernel
theorem dX9_gain_48 : decode cX9_gain 48 = .ok (.getfield 63, 3) := by decide +kernel
theorem dX9_gain_51 : decode cX9_gain 51 = .ok (.bipush 43, 2) := by decide +kernel
theorem dX9_gain_53 : decode cX9_gain 53 = .ok (.iload_n 1, 1) := by decide +kernel
theorem dX9_gain_54 : decode cX9_gain 54 = .ok (.iadd, 1) := by decide +kernel
theorem dX9_gain_55 : decode cX9_gain 55 = .ok (.iaload, 1) := by decide +kernel
theorem dX9_gain_56 : decode cX9_gain 56 = .ok (.iastore, 1) := by decide +kernel
theorem dX9_gain_57 : decode cX9_gain 57 = .ok (.aload_n 0, 1) := by decide +kernel
theorem dX9_gain_58 : decode cX9_gain 58 = .ok (.invokevirtual 366, 3) := by decide +kernel
theorem dX9_gain_61 : decode cX9_gain 61 = .ok (.istore 4, 2) := by decide +kernel
theorem dX9_gain_63 : decode cX9_gain 63 = .ok (.aload_n 0, 1) := by decide +kernel
theorem dX9_gain_64 : decode cX9_gain 64 = .ok (.getfield 63, 3) := by decide +kernel
theorem dX9_gain_67 : decode cX9_gain 67 = .ok (.bipush 19, 2) := by decide +kernel
theorem dX9_gain_69 : decode cX9_gain 69 = .ok (.iload_n 1, 1) := by decide +kernel
theorem dX9_gain_70 : decode cX9_gain 70 = .ok (.iadd, 1) := by decide +kernel
theorem dX9_gain_71 : decode cX9_gain 71 = .ok (.iload_n 3, 1) := by decide +kernel
theorem dX9_gain_72 : decode cX9_gain 72 = .ok (.iastore, 1) := by decide +kernel
theorem dX9_gain_73 : decode cX9_gain 73 = .ok (.iload_n 2, 1) := by decide +kernel
theorem dX9_gain_74 : decode cX9_gain 74 = .ok (.iload 4, 2) := by decide +kernel
theorem dX9_gain_76 : decode cX9_gain 76 = .ok (.isub, 1) := by decide +kernel
theorem dX9_gain_77 : decode cX9_gain 77 = .ok (.ireturn, 1) := by decide +kernel
theorem dX9_bestMove_0 : decode cX9_bestMove 0 = .ok (.aload_n 0, 1) := by decide +kernel
theorem dX9_bestMove_1 : decode cX9_bestMove 1 = .ok (.iconst 0, 1) := by decide +kernel
theorem dX9_bestMove_2 : decode cX9_bestMove 2 = .ok (.putfield 103, 3) := by decide +kernel
theorem dX9_bestMove_5 : decode cX9_bestMove 5 = .ok (.aload_n 0, 1) := by decide +kernel
theorem dX9_bestMove_6 : decode cX9_bestMove 6 = .ok (.iload_n 1, 1) := by decide +kernel
theorem dX9_bestMove_7 : decode cX9_bestMove 7 = .ok (.invokevirtual 252, 3) := by decide +kernel
theorem dX9_bestMove_10 : decode cX9_bestMove 10 = .ok (.ifCond .ne 7, 3) := by decide +kernel
theorem dX9_bestMove_13 : decode cX9_bestMove 13 = .ok (.sipush (-3000), 3) := by decide +kernel
theorem dX9_bestMove_16 : decode cX9_bestMove 16 = .ok (.ireturn, 1) := by decide +kernel
theorem dX9_bestMove_17 : decode cX9_bestMove 17 = .ok (.sipush (-2000), 3) := by decide +kernel
theorem dX9_bestMove_20 : decode cX9_bestMove 20 = .ok (.istore_n 2, 1) := by decide +kernel
theorem dX9_bestMove_21 : decode cX9_bestMove 21 = .ok (.sipush 10000, 3) := by decide +kernel
theorem dX9_bestMove_24 : decode cX9_bestMove 24 = .ok (.istore_n 3, 1) := by decide +kernel
theorem dX9_bestMove_25 : decode cX9_bestMove 25 = .ok (.iconst 0, 1) := by decide +kernel
theorem dX9_bestMove_26 : decode cX9_bestMove 26 = .ok (.istore 4, 2) := by decide +kernel
theorem dX9_bestMove_28 : decode cX9_bestMove 28 = .ok (.iload 4, 2) := by decide +kernel
theorem dX9_bestMove_30 : decode cX9_bestMove 30 = .ok (.sipush 1998, 3) := by decide +kernel
theorem dX9_bestMove_33 : decode cX9_bestMove 33 = .ok (.if_icmp .gt 89, 3) := by decide +kernel
theorem dX9_bestMove_36 : decode cX9_bestMove 36 = .ok (.iload 4, 2) := by decide +kernel
theorem dX9_bestMove_38 : decode cX9_bestMove 38 = .ok (.iconst 2, 1) := by decide +kernel
theorem dX9_bestMove_39 : decode cX9_bestMove 39 = .ok (.irem, 1) := by decide +kernel
theorem dX9_bestMove_40 : decode cX9_bestMove 40 = .ok (.iconst 1, 1) := by decide +kernel
theorem dX9_bestMove_41 : decode cX9_bestMove 41 = .ok (.if_icmp .ne 13, 3) := by decide +kernel
theorem dX9_bestMove_44 : decode cX9_bestMove 44 = .ok (.iload 4, 2) := by decide +kernel
theorem dX9_bestMove_46 : decode cX9_bestMove 46 = .ok (.iconst 1, 1) := by decide +kernel
theorem dX9_bestMove_47 : decode cX9_bestMove 47 = .ok (.iadd, 1) := by decide +kernel
theorem dX9_bestMove_48 : decode cX9_bestMove 48 = .ok (.ineg, 1) := by decide +kernel
theorem dX9_bestMove_49 : decode cX9_bestMove 49 = .ok (.iconst 2, 1) := by decide +kernel
theorem dX9_bestMove_50 : decode cX9_bestMove 50 = .ok (.idiv, 1) := by decide +kernel
theorem dX9_bestMove_51 : decode cX9_bestMove 51 = .ok (.goto 7, 3) := by decide +kernel
theorem dX9_bestMove_54 : decode cX9_bestMove 54 = .ok (.iload 4, 2) := by decide +kernel
theorem dX9_bestMove_56 : decode cX9_bestMove 56 = .ok (.iconst 2, 1) := by decide +kernel
theorem dX9_bestMove_57 : decode cX9_bestMove 57 = .ok (.idiv, 1) := by decide +kernel
theorem dX9_bestMove_58 : decode cX9_bestMove 58 = .ok (.istore 5, 2) := by decide +kernel
theorem dX9_bestMove_60 : decode cX9_bestMove 60 = .ok (.aload_n 0, 1) := by decide +kernel
theorem dX9_bestMove_61 : decode cX9_bestMove 61 = .ok (.iload_n 1, 1) := by decide +kernel
theorem dX9_bestMove_62 : decode cX9_bestMove 62 = .ok (.iload 5, 2) := by decide +kernel
theorem dX9_bestMove_64 : decode cX9_bestMove 64 = .ok (.invokevirtual 255, 3) := by decide +kernel
theorem dX9_bestMove_67 : decode cX9_bestMove 67 = .ok (.ifCond .ne 6, 3) := by decide +kernel
theorem dX9_bestMove_70 : decode cX9_bestMove 70 = .ok (.goto 46, 3) := by decide +kernel
theorem dX9_bestMove_73 : decode cX9_bestMove 73 = .ok (.aload_n 0, 1) := by decide +kernel
theorem dX9_bestMove_74 : decode cX9_bestMove 74 = .ok (.iload_n 1, 1) := by decide +kernel
theorem dX9_bestMove_75 : decode cX9_bestMove 75 = .ok (.iload 5, 2) := by decide +kernel
theorem dX9_bestMove_77 : decode cX9_bestMove 77 = .ok (.invokevirtual 259, 3) := by decide +kernel
theorem dX9_bestMove_80 : decode cX9_bestMove 80 = .ok (.aload_n 0, 1) := by decide +kernel
theorem dX9_bestMove_81 : decode cX9_bestMove 81 = .ok (.invokevirtual 366, 3) := by decide +kernel
theorem dX9_bestMove_84 : decode cX9_bestMove 84 = .ok (.istore 6, 2) := by decide +kernel
theorem dX9_bestMove_86 : decode cX9_bestMove 86 = .ok (.aload_n 0, 1) := by decide +kernel
theorem dX9_bestMove_87 : decode cX9_bestMove 87 = .ok (.iload_n 1, 1) := by decide +kernel
theorem dX9_bestMove_88 : decode cX9_bestMove 88 = .ok (.iload 5, 2) := by decide +kernel
theorem dX9_bestMove_90 : decode cX9_bestMove 90 = .ok (.ineg, 1) := by decide +kernel
theorem dX9_bestMove_91 : decode cX9_bestMove 91 = .ok (.invokevirtual 259, 3) := by decide +kernel
theorem dX9_bestMove_94 : decode cX9_bestMove 94 = .ok (.iload 6, 2) := by decide +kernel
theorem dX9_bestMove_96 : decode cX9_bestMove 96 = .ok (.bipush (-2), 2) := by decide +kernel
theorem dX9_bestMove_98 : decode cX9_bestMove 98 = .ok (.if_icmp .eq 18, 3) := by decide +kernel
theorem dX9_bestMove_101 : decode cX9_bestMove 101 = .ok (.iload 6, 2) := by decide +kernel
theorem dX9_bestMove_103 : decode cX9_bestMove 103 = .ok (.iload_n 3, 1) := by decide +kernel
theorem dX9_bestMove_104 : decode cX9_bestMove 104 = .ok (.if_icmp .lt 6, 3) := by decide +kernel
theorem dX9_bestMove_107 : decode cX9_bestMove 107 = .ok (.goto 9, 3) := by decide +kernel
theorem dX9_bestMove_110 : decode cX9_bestMove 110 = .ok (.iload 5, 2) := by decide +kernel
theorem dX9_bestMove_112 : decode cX9_bestMove 112 = .ok (.istore_n 2, 1) := by decide +kernel
theorem dX9_bestMove_113 : decode cX9_bestMove 113 = .ok (.iload 6, 2) := by decide +kernel
theorem dX9_bestMove_115 : decode cX9_bestMove 115 = .ok (.istore_n 3, 1) := by decide +kernel
theorem dX9_bestMove_116 : decode cX9_bestMove 116 = .ok (.iinc 4 1, 3) := by decide +kernel
theorem dX9_bestMove_119 : decode cX9_bestMove 119 = .ok (.goto (-91), 3) := by decide +kernel
theorem dX9_bestMove_122 : decode cX9_bestMove 122 = .ok (.iload_n 2, 1) := by decide +kernel
theorem dX9_bestMove_123 : decode cX9_bestMove 123 = .ok (.ireturn, 1) := by decide +kernel
theorem dX9_hasLoop_0 : decode cX9_hasLoop 0 = .ok (.iconst 0, 1) := by decide +kernel
theorem dX9_hasLoop_1 : decode cX9_hasLoop 1 = .ok (.istore_n 1, 1) := by decide +kernel
theorem dX9_hasLoop_2 : decode cX9_hasLoop 2 = .ok (.iconst 0, 1) := by decide +kernel
theorem dX9_hasLoop_3 : decode cX9_hasLoop 3 = .ok (.istore_n 2, 1) := by decide +kernel
theorem dX9_hasLoop_4 : decode cX9_hasLoop 4 = .ok (.iload_n 2, 1) := by decide +kernel
theorem dX9_hasLoop_5 : decode cX9_hasLoop 5 = .ok (.aload_n 0, 1) := by decide +kernel
theorem dX9_hasLoop_6 : decode cX9_hasLoop 6 = .ok (.invokevirtual 233, 3) := by decide +kernel
theorem dX9_hasLoop_9 : decode cX9_hasLoop 9 = .ok (.if_icmp .ge 27, 3) := by decide +kernel
theorem dX9_hasLoop_12 : decode cX9_hasLoop 12 = .ok (.iload_n 1, 1) := by decide +kernel
theorem dX9_hasLoop_13 : decode cX9_hasLoop 13 = .ok (.aload_n 0, 1) := by decide +kernel
theorem dX9_hasLoop_14 : decode cX9_hasLoop 14 = .ok (.iload_n 2, 1) := by decide +kernel
theorem dX9_hasLoop_15 : decode cX9_hasLoop 15 = .ok (.invokevirtual 281, 3) := by decide +kernel
theorem dX9_hasLoop_18 : decode cX9_hasLoop 18 = .ok (.ifCond .eq 7, 3) := by decide +kernel
theorem dX9_hasLoop_21 : decode cX9_hasLoop 21 = .ok (.iconst 0, 1) := by decide +kernel
theorem dX9_hasLoop_22 : decode cX9_hasLoop 22 = .ok (.goto 6, 3) := by decide +kernel
theorem dX9_hasLoop_25 : decode cX9_hasLoop 25 = .ok (.iconst 1, 1) := by decide +kernel
theorem dX9_hasLoop_26 : decode cX9_hasLoop 26 = .ok (.iload_n 2, 1) := by decide +kernel
theorem dX9_hasLoop_27 : decode cX9_hasLoop 27 = .ok (.ishl, 1) := by decide +kernel
theorem dX9_hasLoop_28 : decode cX9_hasLoop 28 = .ok (.ior, 1) := by decide +kernel
theorem dX9_hasLoop_29 : decode cX9_hasLoop 29 = .ok (.istore_n 1, 1) := by decide +kernel
theorem dX9_hasLoop_30 : decode cX9_hasLoop 30 = .ok (.iinc 2 1, 3) := by decide +kernel
theorem dX9_hasLoop_33 : decode cX9_hasLoop 33 = .ok (.goto (-29), 3) := by decide +kernel
theorem dX9_hasLoop_36 : decode cX9_hasLoop 36 = .ok (.iconst 0, 1) := by decide +kernel
theorem dX9_hasLoop_37 : decode cX9_hasLoop 37 = .ok (.istore_n 2, 1) := by decide +kernel
theorem dX9_hasLoop_38 : decode cX9_hasLoop 38 = .ok (.iload_n 2, 1) := by decide +kernel
theorem dX9_hasLoop_39 : decode cX9_hasLoop 39 = .ok (.bipush 10, 2) := by decide +kernel
theorem dX9_hasLoop_41 : decode cX9_hasLoop 41 = .ok (.if_icmp .ge 75, 3) := by decide +kernel
theorem dX9_hasLoop_44 : decode cX9_hasLoop 44 = .ok (.iconst 0, 1) := by decide +kernel
theorem dX9_hasLoop_45 : decode cX9_hasLoop 45 = .ok (.istore_n 3, 1) := by decide +kernel
theorem dX9_hasLoop_46 : decode cX9_hasLoop 46 = .ok (.iconst 0, 1) := by decide +kernel
theorem dX9_hasLoop_47 : decode cX9_hasLoop 47 = .ok (.istore 4, 2) := by decide +kernel
theorem dX9_hasLoop_49 : decode cX9_hasLoop 49 = .ok (.iload 4, 2) := by decide +kernel
theorem dX9_hasLoop_51 : decode cX9_hasLoop 51 = .ok (.aload_n 0, 1) := by decide +kernel
theorem dX9_hasLoop_52 : decode cX9_hasLoop 52 = .ok (.invokevirtual 236, 3) := by decide +kernel
theorem dX9_hasLoop_55 : decode cX9_hasLoop 55 = .ok (.if_icmp .ge 51, 3) := by decide +kernel
theorem dX9_hasLoop_58 : decode cX9_hasLoop 58 = .ok (.iload_n 1, 1) := by decide +kernel
theorem dX9_hasLoop_59 : decode cX9_hasLoop 59 = .ok (.aload_n 0, 1) := by decide +kernel
theorem dX9_hasLoop_60 : decode cX9_hasLoop 60 = .ok (.getfield 47, 3) := by decide +kernel
theorem dX9_hasLoop_63 : decode cX9_hasLoop 63 = .ok (.iload 4, 2) := by decide +kernel
theorem dX9_hasLoop_65 : decode cX9_hasLoop 65 = .ok (.iaload, 1) := by decide +kernel
theorem dX9_hasLoop_66 : decode cX9_hasLoop 66 = .ok (.ishr, 1) := by decide +kernel
theorem dX9_hasLoop_67 : decode cX9_hasLoop 67 = .ok (.iconst 1, 1) := by decide +kernel
theorem dX9_hasLoop_68 : decode cX9_hasLoop 68 = .ok (.iand, 1) := by decide +kernel
theorem dX9_hasLoop_69 : decode cX9_hasLoop 69 = .ok (.iconst 1, 1) := by decide +kernel
theorem dX9_hasLoop_70 : decode cX9_hasLoop 70 = .ok (.if_icmp .ne 30, 3) := by decide +kernel
theorem dX9_hasLoop_73 : decode cX9_hasLoop 73 = .ok (.iload_n 1, 1) := by decide +kernel
theorem dX9_hasLoop_74 : decode cX9_hasLoop 74 = .ok (.aload_n 0, 1) := by decide +kernel
theorem dX9_hasLoop_75 : decode cX9_hasLoop 75 = .ok (.getfield 50, 3) := by decide +kernel
theorem dX9_hasLoop_78 : decode cX9_hasLoop 78 = .ok (.iload 4, 2) := by decide +kernel
theorem dX9_hasLoop_80 : decode cX9_hasLoop 80 = .ok (.iaload, 1) := by decide +kernel
theorem dX9_hasLoop_81 : decode cX9_hasLoop 81 = .ok (.ishr, 1) := by decide +kernel
theorem dX9_hasLoop_82 : decode cX9_hasLoop 82 = .ok (.iconst 1, 1) := by decide +kernel
theorem dX9_hasLoop_83 : decode cX9_hasLoop 83 = .ok (.iand, 1) := by decide +kernel
theorem dX9_hasLoop_84 : decode cX9_hasLoop 84 = .ok (.iconst 1, 1) := by decide +kernel
theorem dX9_hasLoop_85 : decode cX9_hasLoop 85 = .ok (.if_icmp .ne 15, 3) := by decide +kernel
theorem dX9_hasLoop_88 : decode cX9_hasLoop 88 = .ok (.iload_n 3, 1) := by decide +kernel
theorem dX9_hasLoop_89 : decode cX9_hasLoop 89 = .ok (.iconst 1, 1) := by decide +kernel
theorem dX9_hasLoop_90 : decode cX9_hasLoop 90 = .ok (.aload_n 0, 1) := by decide +kernel
theorem dX9_hasLoop_91 : decode cX9_hasLoop 91 = .ok (.getfield 50, 3) := by decide +kernel
theorem dX9_hasLoop_94 : decode cX9_hasLoop 94 = .ok (.iload 4, 2) := by decide +kernel
theorem dX9_hasLoop_96 : decode cX9_hasLoop 96 = .ok (.iaload, 1) := by decide +kernel
theorem dX9_hasLoop_97 : decode cX9_hasLoop 97 = .ok (.ishl, 1) := by decide +kernel
theorem dX9_hasLoop_98 : decode cX9_hasLoop 98 = .ok (.ior, 1) := by decide +kernel
theorem dX9_hasLoop_99 : decode cX9_hasLoop 99 = .ok (.istore_n 3, 1) := by decide +kernel
theorem dX9_hasLoop_100 : decode cX9_hasLoop 100 = .ok (.iinc 4 1, 3) := by decide +kernel
theorem dX9_hasLoop_103 : decode cX9_hasLoop 103 = .ok (.goto (-54), 3) := by decide +kernel
theorem dX9_hasLoop_106 : decode cX9_hasLoop 106 = .ok (.iload_n 1, 1) := by decide +kernel
theorem dX9_hasLoop_107 : decode cX9_hasLoop 107 = .ok (.iload_n 3, 1) := by decide +kernel
theorem dX9_hasLoop_108 : decode cX9_hasLoop 108 = .ok (.iand, 1) := by decide +kernel
theorem dX9_hasLoop_109 : decode cX9_hasLoop 109 = .ok (.istore_n 1, 1) := by decide +kernel
theorem dX9_hasLoop_110 : decode cX9_hasLoop 110 = .ok (.iinc 2 1, 3) := by decide +kernel
theorem dX9_hasLoop_113 : decode cX9_hasLoop 113 = .ok (.goto (-75), 3) := by decide +kernel
theorem dX9_hasLoop_116 : decode cX9_hasLoop 116 = .ok (.iload_n 1, 1) := by decide +kernel
theorem dX9_hasLoop_117 : decode cX9_hasLoop 117 = .ok (.ifCond .eq 7, 3) := by decide +kernel
theorem dX9_hasLoop_120 : decode cX9_hasLoop 120 = .ok (.iconst 1, 1) := by decide +kernel
theorem dX9_hasLoop_121 : decode cX9_hasLoop 121 = .ok (.goto 4, 3) := by decide +kernel
theorem dX9_hasLoop_124 : decode cX9_hasLoop 124 = .ok (.iconst 0, 1) := by decide +kernel
theorem dX9_hasLoop_125 : decode cX9_hasLoop 125 = .ok (.ireturn, 1) := by decide +kernel
theorem dX9_breaks_0 : decode cX9_breaks 0 = .ok (.aload_n 0, 1) := by decide +kernel
theorem dX9_breaks_1 : decode cX9_breaks 1 = .ok (.iconst 0, 1) := by decide +kernel
theorem dX9_breaks_2 : decode cX9_breaks 2 = .ok (.putfield 103, 3) := by decide +kernel
theorem dX9_breaks_5 : decode cX9_breaks 5 = .ok (.iconst 0, 1) := by decide +kernel
theorem dX9_breaks_6 : decode cX9_breaks 6 = .ok (.istore_n 1, 1) := by decide +kernel
theorem dX9_breaks_7 : decode cX9_breaks 7 = .ok (.iconst 0, 1) := by decide +kernel
theorem dX9_breaks_8 : decode cX9_breaks 8 = .ok (.istore_n 2, 1) := by decide +kernel
theorem dX9_breaks_9 : decode cX9_breaks 9 = .ok (.iload_n 2, 1) := by decide +kernel
theorem dX9_breaks_10 : decode cX9_breaks 10 = .ok (.aload_n 0, 1) := by decide +kernel
theorem dX9_breaks_11 : decode cX9_breaks 11 = .ok (.invokevirtual 233, 3) := by decide +kernel
theorem dX9_breaks_14 : decode cX9_breaks 14 = .ok (.if_icmp .ge 27, 3) := by decide +kernel
theorem dX9_breaks_17 : decode cX9_breaks 17 = .ok (.iload_n 1, 1) := by decide +kernel
theorem dX9_breaks_18 : decode cX9_breaks 18 = .ok (.aload_n 0, 1) := by decide +kernel
theorem dX9_breaks_19 : decode cX9_breaks 19 = .ok (.iload_n 2, 1) := by decide +kernel
theorem dX9_breaks_20 : decode cX9_breaks 20 = .ok (.invokevirtual 281, 3) := by decide +kernel
theorem dX9_breaks_23 : decode cX9_breaks 23 = .ok (.ifCond .eq 7, 3) := by decide +kernel
theorem dX9_breaks_26 : decode cX9_breaks 26 = .ok (.iconst 0, 1) := by decide +kernel
theorem dX9_breaks_27 : decode cX9_breaks 27 = .ok (.goto 6, 3) := by decide +kernel
theorem dX9_breaks_30 : decode cX9_breaks 30 = .ok (.iconst 1, 1) := by decide +kernel
theorem dX9_breaks_31 : decode cX9_breaks 31 = .ok (.iload_n 2, 1) := by decide +kernel
theorem dX9_breaks_32 : decode cX9_breaks 32 = .ok (.ishl, 1) := by decide +kernel
theorem dX9_breaks_33 : decode cX9_breaks 33 = .ok (.ior, 1) := by decide +kernel
theorem dX9_breaks_34 : decode cX9_breaks 34 = .ok (.istore_n 1, 1) := by decide +kernel
theorem dX9_breaks_35 : decode cX9_breaks 35 = .ok (.iinc 2 1, 3) := by decide +kernel
theorem dX9_breaks_38 : decode cX9_breaks 38 = .ok (.goto (-29), 3) := by decide +kernel
theorem dX9_breaks_41 : decode cX9_breaks 41 = .ok (.iload_n 1, 1) := by decide +kernel
theorem dX9_breaks_42 : decode cX9_breaks 42 = .ok (.istore_n 2, 1) := by decide +kernel
theorem dX9_breaks_43 : decode cX9_breaks 43 = .ok (.iconst 0, 1) := by decide +kernel
theorem dX9_breaks_44 : decode cX9_breaks 44 = .ok (.istore_n 3, 1) := by decide +kernel
theorem dX9_breaks_45 : decode cX9_breaks 45 = .ok (.iload_n 3, 1) := by decide +kernel
theorem dX9_breaks_46 : decode cX9_breaks 46 = .ok (.iload_n 1, 1) := by decide +kernel
theorem dX9_breaks_47 : decode cX9_breaks 47 = .ok (.if_icmp .ge 52, 3) := by decide +kernel
theorem dX9_breaks_50 : decode cX9_breaks 50 = .ok (.iload_n 3, 1) := by decide +kernel
theorem dX9_breaks_51 : decode cX9_breaks 51 = .ok (.iload_n 1, 1) := by decide +kernel
theorem dX9_breaks_52 : decode cX9_breaks 52 = .ok (.iconst (-1), 1) := by decide +kernel
theorem dX9_breaks_53 : decode cX9_breaks 53 = .ok (.ixor, 1) := by decide +kernel
theorem dX9_breaks_54 : decode cX9_breaks 54 = .ok (.iand, 1) := by decide +kernel
theorem dX9_breaks_55 : decode cX9_breaks 55 = .ok (.ifCond .ne 38, 3) := by decide +kernel
theorem dX9_breaks_58 : decode cX9_breaks 58 = .ok (.iload_n 3, 1) := by decide +kernel
theorem dX9_breaks_59 : decode cX9_breaks 59 = .ok (.invokestatic 369, 3) := by decide +kernel
theorem dX9_breaks_62 : decode cX9_breaks 62 = .ok (.iload_n 2, 1) := by decide +kernel
theorem dX9_breaks_63 : decode cX9_breaks 63 = .ok (.invokestatic 369, 3) := by decide +kernel
theorem dX9_breaks_66 : decode cX9_breaks 66 = .ok (.if_icmp .lt 6, 3) := by decide +kernel
theorem dX9_breaks_69 : decode cX9_breaks 69 = .ok (.goto 24, 3) := by decide +kernel
theorem dX9_breaks_72 : decode cX9_breaks 72 = .ok (.aload_n 0, 1) := by decide +kernel
theorem dX9_breaks_73 : decode cX9_breaks 73 = .ok (.iload_n 3, 1) := by decide +kernel
theorem dX9_breaks_74 : decode cX9_breaks 74 = .ok (.iconst 1, 1) := by decide +kernel
theorem dX9_breaks_75 : decode cX9_breaks 75 = .ok (.invokevirtual 372, 3) := by decide +kernel
theorem dX9_breaks_78 : decode cX9_breaks 78 = .ok (.aload_n 0, 1) := by decide +kernel
theorem dX9_breaks_79 : decode cX9_breaks 79 = .ok (.invokevirtual 375, 3) := by decide +kernel
theorem dX9_breaks_82 : decode cX9_breaks 82 = .ok (.ifCond .ne 5, 3) := by decide +kernel
theorem dX9_breaks_85 : decode cX9_breaks 85 = .ok (.iload_n 3, 1) := by decide +kernel
theorem dX9_breaks_86 : decode cX9_breaks 86 = .ok (.istore_n 2, 1) := by decide +kernel
theorem dX9_breaks_87 : decode cX9_breaks 87 = .ok (.aload_n 0, 1) := by decide +kernel
theorem dX9_breaks_88 : decode cX9_breaks 88 = .ok (.iload_n 3, 1) := by decide +kernel
theorem dX9_breaks_89 : decode cX9_breaks 89 = .ok (.iconst 0, 1) := by decide +kernel
theorem dX9_breaks_90 : decode cX9_breaks 90 = .ok (.invokevirtual 372, 3) := by decide +kernel
theorem dX9_breaks_93 : decode cX9_breaks 93 = .ok (.iinc 3 1, 3) := by decide +kernel
theorem dX9_breaks_96 : decode cX9_breaks 96 = .ok (.goto (-51), 3) := by decide +kernel
theorem dX9_breaks_99 : decode cX9_breaks 99 = .ok (.iload_n 2, 1) := by decide +kernel
theorem dX9_breaks_100 : decode cX9_breaks 100 = .ok (.ireturn, 1) := by decide +kernel
theorem dX9_leastWidth_0 : decode cX9_leastWidth 0 = .ok (.aload_n 0, 1) := by decide +kernel
theorem dX9_leastWidth_1 : decode cX9_leastWidth 1 = .ok (.iconst 0, 1) := by decide +kernel
theorem dX9_leastWidth_2 : decode cX9_leastWidth 2 = .ok (.putfield 103, 3) := by decide +kernel
theorem dX9_leastWidth_5 : decode cX9_leastWidth 5 = .ok (.aload_n 0, 1) := by decide +kernel
theorem dX9_leastWidth_6 : decode cX9_leastWidth 6 = .ok (.iload_n 1, 1) := by decide +kernel
theorem dX9_leastWidth_7 : decode cX9_leastWidth 7 = .ok (.invokevirtual 262, 3) := by decide +kernel
theorem dX9_leastWidth_10 : decode cX9_leastWidth 10 = .ok (.ifCond .ne 5, 3) := by decide +kernel
theorem dX9_leastWidth_13 : decode cX9_leastWidth 13 = .ok (.iconst (-1), 1) := by decide +kernel
theorem dX9_leastWidth_14 : decode cX9_leastWidth 14 = .ok (.ireturn, 1) := by decide +kernel
theorem dX9_leastWidth_15 : decode cX9_leastWidth 15 = .ok (.aload_n 0, 1) := by decide +kernel
theorem dX9_leastWidth_16 : decode cX9_leastWidth 16 = .ok (.getfield 63, 3) := by decide +kernel
theorem dX9_leastWidth_19 : decode cX9_leastWidth 19 = .ok (.iconst 5, 1) := by decide +kernel
theorem dX9_leastWidth_20 : decode cX9_leastWidth 20 = .ok (.iload_n 1, 1) := by decide +kernel
theorem dX9_leastWidth_21 : decode cX9_leastWidth 21 = .ok (.iadd, 1) := by decide +kernel
theorem dX9_leastWidth_22 : decode cX9_leastWidth 22 = .ok (.iaload, 1) := by decide +kernel
theorem dX9_leastWidth_23 : decode cX9_leastWidth 23 = .ok (.istore_n 2, 1) := by decide +kernel
theorem dX9_leastWidth_24 : decode cX9_leastWidth 24 = .ok (.bipush (-2), 2) := by decide +kernel
theorem dX9_leastWidth_26 : decode cX9_leastWidth 26 = .ok (.istore_n 3, 1) := by decide +kernel
theorem dX9_leastWidth_27 : decode cX9_leastWidth 27 = .ok (.iconst 1, 1) := by decide +kernel
theorem dX9_leastWidth_28 : decode cX9_leastWidth 28 = .ok (.istore 4, 2) := by decide +kernel
theorem dX9_leastWidth_30 : decode cX9_leastWidth 30 = .ok (.iload 4, 2) := by decide +kernel
theorem dX9_leastWidth_32 : decode cX9_leastWidth 32 = .ok (.bipush 64, 2) := by decide +kernel
theorem dX9_leastWidth_34 : decode cX9_leastWidth 34 = .ok (.if_icmp .ge 35, 3) := by decide +kernel
theorem dX9_leastWidth_37 : decode cX9_leastWidth 37 = .ok (.iload_n 3, 1) := by decide +kernel
theorem dX9_leastWidth_38 : decode cX9_leastWidth 38 = .ok (.bipush (-2), 2) := by decide +kernel
theorem dX9_leastWidth_40 : decode cX9_leastWidth 40 = .ok (.if_icmp .ne 29, 3) := by decide +kernel
theorem dX9_leastWidth_43 : decode cX9_leastWidth 43 = .ok (.aload_n 0, 1) := by decide +kernel
theorem dX9_leastWidth_44 : decode cX9_leastWidth 44 = .ok (.getfield 63, 3) := by decide +kernel
theorem dX9_leastWidth_47 : decode cX9_leastWidth 47 = .ok (.iconst 5, 1) := by decide +kernel
theorem dX9_leastWidth_48 : decode cX9_leastWidth 48 = .ok (.iload_n 1, 1) := by decide +kernel
theorem dX9_leastWidth_49 : decode cX9_leastWidth 49 = .ok (.iadd, 1) := by decide +kernel
theorem dX9_leastWidth_50 : decode cX9_leastWidth 50 = .ok (.iload 4, 2) := by decide +kernel
theorem dX9_leastWidth_52 : decode cX9_leastWidth 52 = .ok (.iastore, 1) := by decide +kernel
theorem dX9_leastWidth_53 : decode cX9_leastWidth 53 = .ok (.aload_n 0, 1) := by decide +kernel
theorem dX9_leastWidth_54 : decode cX9_leastWidth 54 = .ok (.invokevirtual 328, 3) := by decide +kernel
theorem dX9_leastWidth_57 : decode cX9_leastWidth 57 = .ok (.ifCond .eq 6, 3) := by decide +kernel
theorem dX9_leastWidth_60 : decode cX9_leastWidth 60 = .ok (.iload 4, 2) := by decide +kernel
theorem dX9_leastWidth_62 : decode cX9_leastWidth 62 = .ok (.istore_n 3, 1) := by decide +kernel
theorem dX9_leastWidth_63 : decode cX9_leastWidth 63 = .ok (.iinc 4 1, 3) := by decide +kernel
theorem dX9_leastWidth_66 : decode cX9_leastWidth 66 = .ok (.goto (-36), 3) := by decide +kernel
theorem dX9_leastWidth_69 : decode cX9_leastWidth 69 = .ok (.aload_n 0, 1) := by decide +kernel
theorem dX9_leastWidth_70 : decode cX9_leastWidth 70 = .ok (.getfield 63, 3) := by decide +kernel
theorem dX9_leastWidth_73 : decode cX9_leastWidth 73 = .ok (.iconst 5, 1) := by decide +kernel
theorem dX9_leastWidth_74 : decode cX9_leastWidth 74 = .ok (.iload_n 1, 1) := by decide +kernel
theorem dX9_leastWidth_75 : decode cX9_leastWidth 75 = .ok (.iadd, 1) := by decide +kernel
theorem dX9_leastWidth_76 : decode cX9_leastWidth 76 = .ok (.iload_n 2, 1) := by decide +kernel
theorem dX9_leastWidth_77 : decode cX9_leastWidth 77 = .ok (.iastore, 1) := by decide +kernel
theorem dX9_leastWidth_78 : decode cX9_leastWidth 78 = .ok (.iload_n 3, 1) := by decide +kernel
theorem dX9_leastWidth_79 : decode cX9_leastWidth 79 = .ok (.ireturn, 1) := by decide +kernel
theorem dX9_bits_0 : decode cX9_bits 0 = .ok (.iconst 0, 1) := by decide +kernel
theorem dX9_bits_1 : decode cX9_bits 1 = .ok (.istore_n 1, 1) := by decide +kernel
theorem dX9_bits_2 : decode cX9_bits 2 = .ok (.iload_n 0, 1) := by decide +kernel
theorem dX9_bits_3 : decode cX9_bits 3 = .ok (.istore_n 2, 1) := by decide +kernel
theorem dX9_bits_4 : decode cX9_bits 4 = .ok (.iload_n 2, 1) := by decide +kernel
theorem dX9_bits_5 : decode cX9_bits 5 = .ok (.ifCond .eq 15, 3) := by decide +kernel
theorem dX9_bits_8 : decode cX9_bits 8 = .ok (.iinc 1 1, 3) := by decide +kernel
theorem dX9_bits_11 : decode cX9_bits 11 = .ok (.iload_n 2, 1) := by decide +kernel
theorem dX9_bits_12 : decode cX9_bits 12 = .ok (.iload_n 2, 1) := by decide +kernel
theorem dX9_bits_13 : decode cX9_bits 13 = .ok (.iconst 1, 1) := by decide +kernel
theorem dX9_bits_14 : decode cX9_bits 14 = .ok (.isub, 1) := by decide +kernel
theorem dX9_bits_15 : decode cX9_bits 15 = .ok (.iand, 1) := by decide +kernel
theorem dX9_bits_16 : decode cX9_bits 16 = .ok (.istore_n 2, 1) := by decide +kernel
theorem dX9_bits_17 : decode cX9_bits 17 = .ok (.goto (-13), 3) := by decide +kernel
theorem dX9_bits_20 : decode cX9_bits 20 = .ok (.iload_n 1, 1) := by decide +kernel
theorem dX9_bits_21 : decode cX9_bits 21 = .ok (.ireturn, 1) := by decide +kernel
theorem dX9_makes_0 : decode cX9_makes 0 = .ok (.iconst 0, 1) := by decide +kernel
theorem dX9_makes_1 : decode cX9_makes 1 = .ok (.istore_n 3, 1) := by decide +kernel
theorem dX9_makes_2 : decode cX9_makes 2 = .ok (.iload_n 3, 1) := by decide +kernel
theorem dX9_makes_3 : decode cX9_makes 3 = .ok (.aload_n 0, 1) := by decide +kernel
theorem dX9_makes_4 : decode cX9_makes 4 = .ok (.invokevirtual 233, 3) := by decide +kernel
theorem dX9_makes_7 : decode cX9_makes 7 = .ok (.if_icmp .ge 28, 3) := by decide +kernel
theorem dX9_makes_10 : decode cX9_makes 10 = .ok (.iload_n 1, 1) := by decide +kernel
theorem dX9_makes_11 : decode cX9_makes 11 = .ok (.iload_n 3, 1) := by decide +kernel
theorem dX9_makes_12 : decode cX9_makes 12 = .ok (.ishr, 1) := by decide +kernel
theorem dX9_makes_13 : decode cX9_makes 13 = .ok (.iconst 1, 1) := by decide +kernel
theorem dX9_makes_14 : decode cX9_makes 14 = .ok (.iand, 1) := by decide +kernel
theorem dX9_makes_15 : decode cX9_makes 15 = .ok (.iconst 1, 1) := by decide +kernel
theorem dX9_makes_16 : decode cX9_makes 16 = .ok (.if_icmp .ne 13, 3) := by decide +kernel
theorem dX9_makes_19 : decode cX9_makes 19 = .ok (.aload_n 0, 1) := by decide +kernel
theorem dX9_makes_20 : decode cX9_makes 20 = .ok (.getfield 63, 3) := by decide +kernel
theorem dX9_makes_23 : decode cX9_makes 23 = .ok (.bipush 9, 2) := by decide +kernel
theorem dX9_makes_25 : decode cX9_makes 25 = .ok (.iload_n 3, 1) := by decide +kernel
theorem dX9_makes_26 : decode cX9_makes 26 = .ok (.iadd, 1) := by decide +kernel
theorem dX9_makes_27 : decode cX9_makes 27 = .ok (.iload_n 2, 1) := by decide +kernel
theorem dX9_makes_28 : decode cX9_makes 28 = .ok (.iastore, 1) := by decide +kernel
theorem dX9_makes_29 : decode cX9_makes 29 = .ok (.iinc 3 1, 3) := by decide +kernel
theorem dX9_makes_32 : decode cX9_makes 32 = .ok (.goto (-30), 3) := by decide +kernel
theorem dX9_makes_35 : decode cX9_makes 35 = .ok (.return_, 1) := by decide +kernel
theorem dX9_flops_0 : decode cX9_flops 0 = .ok (.aload_n 0, 1) := by decide +kernel
theorem dX9_flops_1 : decode cX9_flops 1 = .ok (.iconst 0, 1) := by decide +kernel
theorem dX9_flops_2 : decode cX9_flops 2 = .ok (.putfield 103, 3) := by decide +kernel
theorem dX9_flops_5 : decode cX9_flops 5 = .ok (.aload_n 0, 1) := by decide +kernel
theorem dX9_flops_6 : decode cX9_flops 6 = .ok (.invokevirtual 328, 3) := by decide +kernel
theorem dX9_flops_9 : decode cX9_flops 9 = .ok (.ifCond .ne 6, 3) := by decide +kernel
theorem dX9_flops_12 : decode cX9_flops 12 = .ok (.bipush (-2), 2) := by decide +kernel
theorem dX9_flops_14 : decode cX9_flops 14 = .ok (.ireturn, 1) := by decide +kernel
theorem dX9_flops_15 : decode cX9_flops 15 = .ok (.iconst 0, 1) := by decide +kernel
theorem dX9_flops_16 : decode cX9_flops 16 = .ok (.istore_n 1, 1) := by decide +kernel
theorem dX9_flops_17 : decode cX9_flops 17 = .ok (.iconst 0, 1) := by decide +kernel
theorem dX9_flops_18 : decode cX9_flops 18 = .ok (.istore_n 2, 1) := by decide +kernel
theorem dX9_flops_19 : decode cX9_flops 19 = .ok (.iload_n 2, 1) := by decide +kernel
theorem dX9_flops_20 : decode cX9_flops 20 = .ok (.aload_n 0, 1) := by decide +kernel
theorem dX9_flops_21 : decode cX9_flops 21 = .ok (.invokevirtual 233, 3) := by decide +kernel
theorem dX9_flops_24 : decode cX9_flops 24 = .ok (.if_icmp .ge 27, 3) := by decide +kernel
theorem dX9_flops_27 : decode cX9_flops 27 = .ok (.iload_n 1, 1) := by decide +kernel
theorem dX9_flops_28 : decode cX9_flops 28 = .ok (.aload_n 0, 1) := by decide +kernel
theorem dX9_flops_29 : decode cX9_flops 29 = .ok (.iload_n 2, 1) := by decide +kernel
theorem dX9_flops_30 : decode cX9_flops 30 = .ok (.invokevirtual 281, 3) := by decide +kernel
theorem dX9_flops_33 : decode cX9_flops 33 = .ok (.ifCond .eq 7, 3) := by decide +kernel
theorem dX9_flops_36 : decode cX9_flops 36 = .ok (.iconst 0, 1) := by decide +kernel
theorem dX9_flops_37 : decode cX9_flops 37 = .ok (.goto 6, 3) := by decide +kernel
theorem dX9_flops_40 : decode cX9_flops 40 = .ok (.iconst 1, 1) := by decide +kernel
theorem dX9_flops_41 : decode cX9_flops 41 = .ok (.iload_n 2, 1) := by decide +kernel
theorem dX9_flops_42 : decode cX9_flops 42 = .ok (.ishl, 1) := by decide +kernel
theorem dX9_flops_43 : decode cX9_flops 43 = .ok (.ior, 1) := by decide +kernel
theorem dX9_flops_44 : decode cX9_flops 44 = .ok (.istore_n 1, 1) := by decide +kernel
theorem dX9_flops_45 : decode cX9_flops 45 = .ok (.iinc 2 1, 3) := by decide +kernel
theorem dX9_flops_48 : decode cX9_flops 48 = .ok (.goto (-29), 3) := by decide +kernel
theorem dX9_flops_51 : decode cX9_flops 51 = .ok (.iconst 0, 1) := by decide +kernel
theorem dX9_flops_52 : decode cX9_flops 52 = .ok (.istore_n 2, 1) := by decide +kernel
theorem dX9_flops_53 : decode cX9_flops 53 = .ok (.iconst 1, 1) := by decide +kernel
theorem dX9_flops_54 : decode cX9_flops 54 = .ok (.istore_n 3, 1) := by decide +kernel
theorem dX9_flops_55 : decode cX9_flops 55 = .ok (.iload_n 3, 1) := by decide +kernel
theorem dX9_flops_56 : decode cX9_flops 56 = .ok (.iload_n 1, 1) := by decide +kernel
theorem dX9_flops_57 : decode cX9_flops 57 = .ok (.if_icmp .gt 52, 3) := by decide +kernel
theorem dX9_flops_60 : decode cX9_flops 60 = .ok (.iload_n 3, 1) := by decide +kernel
theorem dX9_flops_61 : decode cX9_flops 61 = .ok (.iload_n 1, 1) := by decide +kernel
theorem dX9_flops_62 : decode cX9_flops 62 = .ok (.iconst (-1), 1) := by decide +kernel
theorem dX9_flops_63 : decode cX9_flops 63 = .ok (.ixor, 1) := by decide +kernel
theorem dX9_flops_64 : decode cX9_flops 64 = .ok (.iand, 1) := by decide +kernel
theorem dX9_flops_65 : decode cX9_flops 65 = .ok (.ifCond .ne 38, 3) := by decide +kernel
theorem dX9_flops_68 : decode cX9_flops 68 = .ok (.iload_n 3, 1) := by decide +kernel
theorem dX9_flops_69 : decode cX9_flops 69 = .ok (.invokestatic 369, 3) := by decide +kernel
theorem dX9_flops_72 : decode cX9_flops 72 = .ok (.iload_n 2, 1) := by decide +kernel
theorem dX9_flops_73 : decode cX9_flops 73 = .ok (.invokestatic 369, 3) := by decide +kernel
theorem dX9_flops_76 : decode cX9_flops 76 = .ok (.if_icmp .gt 6, 3) := by decide +kernel
theorem dX9_flops_79 : decode cX9_flops 79 = .ok (.goto 24, 3) := by decide +kernel
theorem dX9_flops_82 : decode cX9_flops 82 = .ok (.aload_n 0, 1) := by decide +kernel
theorem dX9_flops_83 : decode cX9_flops 83 = .ok (.iload_n 3, 1) := by decide +kernel
theorem dX9_flops_84 : decode cX9_flops 84 = .ok (.iconst 1, 1) := by decide +kernel
theorem dX9_flops_85 : decode cX9_flops 85 = .ok (.invokevirtual 372, 3) := by decide +kernel
theorem dX9_flops_88 : decode cX9_flops 88 = .ok (.aload_n 0, 1) := by decide +kernel
theorem dX9_flops_89 : decode cX9_flops 89 = .ok (.invokevirtual 328, 3) := by decide +kernel
theorem dX9_flops_92 : decode cX9_flops 92 = .ok (.ifCond .eq 5, 3) := by decide +kernel
theorem dX9_flops_95 : decode cX9_flops 95 = .ok (.iload_n 3, 1) := by decide +kernel
theorem dX9_flops_96 : decode cX9_flops 96 = .ok (.istore_n 2, 1) := by decide +kernel
theorem dX9_flops_97 : decode cX9_flops 97 = .ok (.aload_n 0, 1) := by decide +kernel
theorem dX9_flops_98 : decode cX9_flops 98 = .ok (.iload_n 3, 1) := by decide +kernel
theorem dX9_flops_99 : decode cX9_flops 99 = .ok (.iconst 0, 1) := by decide +kernel
theorem dX9_flops_100 : decode cX9_flops 100 = .ok (.invokevirtual 372, 3) := by decide +kernel
theorem dX9_flops_103 : decode cX9_flops 103 = .ok (.iinc 3 1, 3) := by decide +kernel
theorem dX9_flops_106 : decode cX9_flops 106 = .ok (.goto (-51), 3) := by decide +kernel
theorem dX9_flops_109 : decode cX9_flops 109 = .ok (.iload_n 2, 1) := by decide +kernel
theorem dX9_flops_110 : decode cX9_flops 110 = .ok (.ireturn, 1) := by decide +kernel
theorem dX9_nearOf_0 : decode cX9_nearOf 0 = .ok (.aload_n 0, 1) := by decide +kernel
theorem dX9_nearOf_1 : decode cX9_nearOf 1 = .ok (.getfield 50, 3) := by decide +kernel
theorem dX9_nearOf_4 : decode cX9_nearOf 4 = .ok (.iload_n 1, 1) := by decide +kernel
theorem dX9_nearOf_5 : decode cX9_nearOf 5 = .ok (.iaload, 1) := by decide +kernel
theorem dX9_nearOf_6 : decode cX9_nearOf 6 = .ok (.istore_n 2, 1) := by decide +kernel
theorem dX9_nearOf_7 : decode cX9_nearOf 7 = .ok (.aload_n 0, 1) := by decide +kernel
theorem dX9_nearOf_8 : decode cX9_nearOf 8 = .ok (.iload_n 1, 1) := by decide +kernel
theorem dX9_nearOf_9 : decode cX9_nearOf 9 = .ok (.aload_n 0, 1) := by decide +kernel
theorem dX9_nearOf_10 : decode cX9_nearOf 10 = .ok (.getfield 69, 3) := by decide +kernel
theorem dX9_nearOf_13 : decode cX9_nearOf 13 = .ok (.invokevirtual 286, 3) := by decide +kernel
theorem dX9_nearOf_16 : decode cX9_nearOf 16 = .ok (.lstore_n 3, 1) := by decide +kernel
theorem dX9_nearOf_17 : decode cX9_nearOf 17 = .ok (.aload_n 0, 1) := by decide +kernel
theorem dX9_nearOf_18 : decode cX9_nearOf 18 = .ok (.iload_n 2, 1) := by decide +kernel
theorem dX9_nearOf_19 : decode cX9_nearOf 19 = .ok (.lload_n 3, 1) := by decide +kernel
theorem dX9_nearOf_20 : decode cX9_nearOf 20 = .ok (.lconst 0, 1) := by decide +kernel
theorem dX9_nearOf_21 : decode cX9_nearOf 21 = .ok (.lcmp, 1) := by decide +kernel
theorem dX9_nearOf_22 : decode cX9_nearOf 22 = .ok (.ifCond .ge 7, 3) := by decide +kernel
theorem dX9_nearOf_25 : decode cX9_nearOf 25 = .ok (.lconst 0, 1) := by decide +kernel
theorem dX9_nearOf_26 : decode cX9_nearOf 26 = .ok (.goto 4, 3) := by decide +kernel
theorem dX9_nearOf_29 : decode cX9_nearOf 29 = .ok (.lload_n 3, 1) := by decide +kernel
theorem dX9_nearOf_30 : decode cX9_nearOf 30 = .ok (.lload_n 3, 1) := by decide +kernel
theorem dX9_nearOf_31 : decode cX9_nearOf 31 = .ok (.invokevirtual 309, 3) := by decide +kernel
theorem dX9_nearOf_34 : decode cX9_nearOf 34 = .ok (.lreturn, 1) := by decide +kernel
theorem dX9_near_0 : decode cX9_near 0 = .ok (.aload_n 0, 1) := by decide +kernel
theorem dX9_near_1 : decode cX9_near 1 = .ok (.iconst 0, 1) := by decide +kernel
theorem dX9_near_2 : decode cX9_near 2 = .ok (.putfield 103, 3) := by decide +kernel
theorem dX9_near_5 : decode cX9_near 5 = .ok (.aload_n 0, 1) := by decide +kernel
theorem dX9_near_6 : decode cX9_near 6 = .ok (.iload_n 1, 1) := by decide +kernel
theorem dX9_near_7 : decode cX9_near 7 = .ok (.invokevirtual 265, 3) := by decide +kernel
theorem dX9_near_10 : decode cX9_near 10 = .ok (.ifCond .ne 7, 3) := by decide +kernel
theorem dX9_near_13 : decode cX9_near 13 = .ok (.ldc2_w 317, 3) := by decide +kernel
theorem dX9_near_16 : decode cX9_near 16 = .ok (.lreturn, 1) := by decide +kernel
theorem dX9_near_17 : decode cX9_near 17 = .ok (.aload_n 0, 1) := by decide +kernel
theorem dX9_near_18 : decode cX9_near 18 = .ok (.invokevirtual 306, 3) := by decide +kernel
theorem dX9_near_21 : decode cX9_near 21 = .ok (.aload_n 0, 1) := by decide +kernel
theorem dX9_near_22 : decode cX9_near 22 = .ok (.getfield 303, 3) := by decide +kernel
theorem dX9_near_25 : decode cX9_near 25 = .ok (.ifCond .eq 9, 3) := by decide +kernel
theorem dX9_near_28 : decode cX9_near 28 = .ok (.ldc2_w 317, 3) := by decide +kernel
theorem dX9_near_31 : decode cX9_near 31 = .ok (.goto 8, 3) := by decide +kernel
theorem dX9_near_34 : decode cX9_near 34 = .ok (.aload_n 0, 1) := by decide +kernel
theorem dX9_near_35 : decode cX9_near 35 = .ok (.iload_n 1, 1) := by decide +kernel
theorem dX9_near_36 : decode cX9_near 36 = .ok (.invokevirtual 378, 3) := by decide +kernel
theorem dX9_near_39 : decode cX9_near 39 = .ok (.lreturn, 1) := by decide +kernel
theorem dX9_nearest_0 : decode cX9_nearest 0 = .ok (.aload_n 0, 1) := by decide +kernel
theorem dX9_nearest_1 : decode cX9_nearest 1 = .ok (.iconst 0, 1) := by decide +kernel
theorem dX9_nearest_2 : decode cX9_nearest 2 = .ok (.putfield 103, 3) := by decide +kernel
theorem dX9_nearest_5 : decode cX9_nearest 5 = .ok (.iload_n 1, 1) := by decide +kernel
theorem dX9_nearest_6 : decode cX9_nearest 6 = .ok (.ifCond .ge 5, 3) := by decide +kernel
theorem dX9_nearest_9 : decode cX9_nearest 9 = .ok (.iconst (-1), 1) := by decide +kernel
theorem dX9_nearest_10 : decode cX9_nearest 10 = .ok (.ireturn, 1) := by decide +kernel
theorem dX9_nearest_11 : decode cX9_nearest 11 = .ok (.aload_n 0, 1) := by decide +kernel
theorem dX9_nearest_12 : decode cX9_nearest 12 = .ok (.invokevirtual 306, 3) := by decide +kernel
theorem dX9_nearest_15 : decode cX9_nearest 15 = .ok (.aload_n 0, 1) := by decide +kernel
theorem dX9_nearest_16 : decode cX9_nearest 16 = .ok (.getfield 303, 3) := by decide +kernel
theorem dX9_nearest_19 : decode cX9_nearest 19 = .ok (.ifCond .ne 11, 3) := by decide +kernel
theorem dX9_nearest_22 : decode cX9_nearest 22 = .ok (.iload_n 1, 1) := by decide +kernel
theorem dX9_nearest_23 : decode cX9_nearest 23 = .ok (.aload_n 0, 1) := by decide +kernel
theorem dX9_nearest_24 : decode cX9_nearest 24 = .ok (.invokevirtual 236, 3) := by decide +kernel
theorem dX9_nearest_27 : decode cX9_nearest 27 = .ok (.if_icmp .lt 6, 3) := by decide +kernel
theorem dX9_nearest_30 : decode cX9_nearest 30 = .ok (.bipush (-2), 2) := by decide +kernel
theorem dX9_nearest_32 : decode cX9_nearest 32 = .ok (.ireturn, 1) := by decide +kernel
theorem dX9_nearest_33 : decode cX9_nearest 33 = .ok (.iconst 0, 1) := by decide +kernel
theorem dX9_nearest_34 : decode cX9_nearest 34 = .ok (.istore_n 2, 1) := by decide +kernel
theorem dX9_nearest_35 : decode cX9_nearest 35 = .ok (.iload_n 2, 1) := by decide +kernel
theorem dX9_nearest_36 : decode cX9_nearest 36 = .ok (.aload_n 0, 1) := by decide +kernel
theorem dX9_nearest_37 : decode cX9_nearest 37 = .ok (.invokevirtual 236, 3) := by decide +kernel
theorem dX9_nearest_40 : decode cX9_nearest 40 = .ok (.if_icmp .ge 78, 3) := by decide +kernel
theorem dX9_nearest_43 : decode cX9_nearest 43 = .ok (.iconst 0, 1) := by decide +kernel
theorem dX9_nearest_44 : decode cX9_nearest 44 = .ok (.istore_n 3, 1) := by decide +kernel
theorem dX9_nearest_45 : decode cX9_nearest 45 = .ok (.iconst 0, 1) := by decide +kernel
theorem dX9_nearest_46 : decode cX9_nearest 46 = .ok (.istore 4, 2) := by decide +kernel
theorem dX9_nearest_48 : decode cX9_nearest 48 = .ok (.iload 4, 2) := by decide +kernel
theorem dX9_nearest_50 : decode cX9_nearest 50 = .ok (.aload_n 0, 1) := by decide +kernel
theorem dX9_nearest_51 : decode cX9_nearest 51 = .ok (.invokevirtual 236, 3) := by decide +kernel
theorem dX9_nearest_54 : decode cX9_nearest 54 = .ok (.if_icmp .ge 51, 3) := by decide +kernel
theorem dX9_nearest_57 : decode cX9_nearest 57 = .ok (.aload_n 0, 1) := by decide +kernel
theorem dX9_nearest_58 : decode cX9_nearest 58 = .ok (.iload 4, 2) := by decide +kernel
theorem dX9_nearest_60 : decode cX9_nearest 60 = .ok (.invokevirtual 378, 3) := by decide +kernel
theorem dX9_nearest_63 : decode cX9_nearest 63 = .ok (.aload_n 0, 1) := by decide +kernel
theorem dX9_nearest_64 : decode cX9_nearest 64 = .ok (.iload_n 2, 1) := by decide +kernel
theorem dX9_nearest_65 : decode cX9_nearest 65 = .ok (.invokevirtual 378, 3) := by decide +kernel
theorem dX9_nearest_68 : decode cX9_nearest 68 = .ok (.lsub, 1) := by decide +kernel
theorem dX9_nearest_69 : decode cX9_nearest 69 = .ok (.lstore 5, 2) := by decide +kernel
theorem dX9_nearest_71 : decode cX9_nearest 71 = .ok (.iload_n 3, 1) := by decide +kernel
theorem dX9_nearest_72 : decode cX9_nearest 72 = .ok (.lload 5, 2) := by decide +kernel
theorem dX9_nearest_74 : decode cX9_nearest 74 = .ok (.lconst 0, 1) := by decide +kernel
theorem dX9_nearest_75 : decode cX9_nearest 75 = .ok (.lcmp, 1) := by decide +kernel
theorem dX9_nearest_76 : decode cX9_nearest 76 = .ok (.ifCond .lt 16, 3) := by decide +kernel
theorem dX9_nearest_79 : decode cX9_nearest 79 = .ok (.lload 5, 2) := by decide +kernel
theorem dX9_nearest_81 : decode cX9_nearest 81 = .ok (.lconst 0, 1) := by decide +kernel
theorem dX9_nearest_82 : decode cX9_nearest 82 = .ok (.lcmp, 1) := by decide +kernel
theorem dX9_nearest_83 : decode cX9_nearest 83 = .ok (.ifCond .ne 13, 3) := by decide +kernel
theorem dX9_nearest_86 : decode cX9_nearest 86 = .ok (.iload 4, 2) := by decide +kernel
theorem dX9_nearest_88 : decode cX9_nearest 88 = .ok (.iload_n 2, 1) := by decide +kernel
theorem dX9_nearest_89 : decode cX9_nearest 89 = .ok (.if_icmp .ge 7, 3) := by decide +kernel
theorem dX9_nearest_92 : decode cX9_nearest 92 = .ok (.iconst 1, 1) := by decide +kernel
theorem dX9_nearest_93 : decode cX9_nearest 93 = .ok (.goto 4, 3) := by decide +kernel
theorem dX9_nearest_96 : decode cX9_nearest 96 = .ok (.iconst 0, 1) := by decide +kernel
theorem dX9_nearest_97 : decode cX9_nearest 97 = .ok (.iadd, 1) := by decide +kernel
theorem dX9_nearest_98 : decode cX9_nearest 98 = .ok (.istore_n 3, 1) := by decide +kernel
theorem dX9_nearest_99 : decode cX9_nearest 99 = .ok (.iinc 4 1, 3) := by decide +kernel
theorem dX9_nearest_102 : decode cX9_nearest 102 = .ok (.goto (-54), 3) := by decide +kernel
theorem dX9_nearest_105 : decode cX9_nearest 105 = .ok (.iload_n 3, 1) := by decide +kernel
theorem dX9_nearest_106 : decode cX9_nearest 106 = .ok (.iload_n 1, 1) := by decide +kernel
theorem dX9_nearest_107 : decode cX9_nearest 107 = .ok (.if_icmp .ne 5, 3) := by decide +kernel
theorem dX9_nearest_110 : decode cX9_nearest 110 = .ok (.iload_n 2, 1) := by decide +kernel
theorem dX9_nearest_111 : decode cX9_nearest 111 = .ok (.ireturn, 1) := by decide +kernel
theorem dX9_nearest_112 : decode cX9_nearest 112 = .ok (.iinc 2 1, 3) := by decide +kernel
theorem dX9_nearest_115 : decode cX9_nearest 115 = .ok (.goto (-80), 3) := by decide +kernel
theorem dX9_nearest_118 : decode cX9_nearest 118 = .ok (.bipush (-2), 2) := by decide +kernel
theorem dX9_nearest_120 : decode cX9_nearest 120 = .ok (.ireturn, 1) := by decide +kernel
theorem dX9_timeOf_0 : decode cX9_timeOf 0 = .ok (.iload_n 1, 1) := by decide +kernel
theorem dX9_timeOf_1 : decode cX9_timeOf 1 = .ok (.iconst 4, 1) := by decide +kernel
theorem dX9_timeOf_2 : decode cX9_timeOf 2 = .ok (.irem, 1) := by decide +kernel
theorem dX9_timeOf_3 : decode cX9_timeOf 3 = .ok (.istore_n 2, 1) := by decide +kernel
theorem dX9_timeOf_4 : decode cX9_timeOf 4 = .ok (.aload_n 0, 1) := by decide +kernel
theorem dX9_timeOf_5 : decode cX9_timeOf 5 = .ok (.getfield 63, 3) := by decide +kernel
theorem dX9_timeOf_8 : decode cX9_timeOf 8 = .ok (.iconst 1, 1) := by decide +kernel
theorem dX9_timeOf_9 : decode cX9_timeOf 9 = .ok (.iload_n 2, 1) := by decide +kernel
theorem dX9_timeOf_10 : decode cX9_timeOf 10 = .ok (.iadd, 1) := by decide +kernel
theorem dX9_timeOf_11 : decode cX9_timeOf 11 = .ok (.iaload, 1) := by decide +kernel
theorem dX9_timeOf_12 : decode cX9_timeOf 12 = .ok (.iload_n 1, 1) := by decide +kernel
theorem dX9_timeOf_13 : decode cX9_timeOf 13 = .ok (.iconst 4, 1) := by decide +kernel
theorem dX9_timeOf_14 : decode cX9_timeOf 14 = .ok (.if_icmp .ge 14, 3) := by decide +kernel
theorem dX9_timeOf_17 : decode cX9_timeOf 17 = .ok (.aload_n 0, 1) := by decide +kernel
theorem dX9_timeOf_18 : decode cX9_timeOf 18 = .ok (.getfield 63, 3) := by decide +kernel
theorem dX9_timeOf_21 : decode cX9_timeOf 21 = .ok (.iconst 5, 1) := by decide +kernel
theorem dX9_timeOf_22 : decode cX9_timeOf 22 = .ok (.iload_n 2, 1) := by decide +kernel
theorem dX9_timeOf_23 : decode cX9_timeOf 23 = .ok (.iadd, 1) := by decide +kernel
theorem dX9_timeOf_24 : decode cX9_timeOf 24 = .ok (.iaload, 1) := by decide +kernel
theorem dX9_timeOf_25 : decode cX9_timeOf 25 = .ok (.goto 4, 3) := by decide +kernel
theorem dX9_timeOf_28 : decode cX9_timeOf 28 = .ok (.iconst 0, 1) := by decide +kernel
theorem dX9_timeOf_29 : decode cX9_timeOf 29 = .ok (.iadd, 1) := by decide +kernel
theorem dX9_timeOf_30 : decode cX9_timeOf 30 = .ok (.istore_n 3, 1) := by decide +kernel
theorem dX9_timeOf_31 : decode cX9_timeOf 31 = .ok (.iload_n 3, 1) := by decide +kernel
theorem dX9_timeOf_32 : decode cX9_timeOf 32 = .ok (.bipush 64, 2) := by decide +kernel
theorem dX9_timeOf_34 : decode cX9_timeOf 34 = .ok (.irem, 1) := by decide +kernel
theorem dX9_timeOf_35 : decode cX9_timeOf 35 = .ok (.aload_n 0, 1) := by decide +kernel
theorem dX9_timeOf_36 : decode cX9_timeOf 36 = .ok (.getfield 63, 3) := by decide +kernel
theorem dX9_timeOf_39 : decode cX9_timeOf 39 = .ok (.iconst 0, 1) := by decide +kernel
theorem dX9_timeOf_40 : decode cX9_timeOf 40 = .ok (.iaload, 1) := by decide +kernel
theorem dX9_timeOf_41 : decode cX9_timeOf 41 = .ok (.imul, 1) := by decide +kernel
theorem dX9_timeOf_42 : decode cX9_timeOf 42 = .ok (.ireturn, 1) := by decide +kernel
theorem dX9_event_0 : decode cX9_event 0 = .ok (.aload_n 0, 1) := by decide +kernel
theorem dX9_event_1 : decode cX9_event 1 = .ok (.iconst 0, 1) := by decide +kernel
theorem dX9_event_2 : decode cX9_event 2 = .ok (.putfield 103, 3) := by decide +kernel
theorem dX9_event_5 : decode cX9_event 5 = .ok (.iload_n 1, 1) := by decide +kernel
theorem dX9_event_6 : decode cX9_event 6 = .ok (.ifCond .lt 22, 3) := by decide +kernel
theorem dX9_event_9 : decode cX9_event 9 = .ok (.iload_n 1, 1) := by decide +kernel
theorem dX9_event_10 : decode cX9_event 10 = .ok (.iconst 2, 1) := by decide +kernel
theorem dX9_event_11 : decode cX9_event 11 = .ok (.aload_n 0, 1) := by decide +kernel
theorem dX9_event_12 : decode cX9_event 12 = .ok (.invokevirtual 230, 3) := by decide +kernel
theorem dX9_event_15 : decode cX9_event 15 = .ok (.imul, 1) := by decide +kernel
theorem dX9_event_16 : decode cX9_event 16 = .ok (.if_icmp .ge 12, 3) := by decide +kernel
theorem dX9_event_19 : decode cX9_event 19 = .ok (.iload_n 2, 1) := by decide +kernel
theorem dX9_event_20 : decode cX9_event 20 = .ok (.ifCond .lt 8, 3) := by decide +kernel
theorem dX9_event_23 : decode cX9_event 23 = .ok (.iload_n 2, 1) := by decide +kernel
theorem dX9_event_24 : decode cX9_event 24 = .ok (.iconst 2, 1) := by decide +kernel
theorem dX9_event_25 : decode cX9_event 25 = .ok (.if_icmp .le 5, 3) := by decide +kernel
theorem dX9_event_28 : decode cX9_event 28 = .ok (.iconst (-1), 1) := by decide +kernel
theorem dX9_event_29 : decode cX9_event 29 = .ok (.ireturn, 1) := by decide +kernel
theorem dX9_event_30 : decode cX9_event 30 = .ok (.iconst 0, 1) := by decide +kernel
theorem dX9_event_31 : decode cX9_event 31 = .ok (.istore_n 3, 1) := by decide +kernel
theorem dX9_event_32 : decode cX9_event 32 = .ok (.iload_n 3, 1) := by decide +kernel
theorem dX9_event_33 : decode cX9_event 33 = .ok (.bipush 8, 2) := by decide +kernel
theorem dX9_event_35 : decode cX9_event 35 = .ok (.if_icmp .ge 132, 3) := by decide +kernel
theorem dX9_event_38 : decode cX9_event 38 = .ok (.iload_n 3, 1) := by decide +kernel
theorem dX9_event_39 : decode cX9_event 39 = .ok (.iconst 4, 1) := by decide +kernel
theorem dX9_event_40 : decode cX9_event 40 = .ok (.irem, 1) := by decide +kernel
theorem dX9_event_41 : decode cX9_event 41 = .ok (.aload_n 0, 1) := by decide +kernel
theorem dX9_event_42 : decode cX9_event 42 = .ok (.invokevirtual 230, 3) := by decide +kernel
theorem dX9_event_45 : decode cX9_event 45 = .ok (.if_icmp .lt 6, 3) := by decide +kernel
theorem dX9_event_48 : decode cX9_event 48 = .ok (.goto 113, 3) := by decide +kernel
theorem dX9_event_51 : decode cX9_event 51 = .ok (.iconst 0, 1) := by decide +kernel
theorem dX9_event_52 : decode cX9_event 52 = .ok (.istore 4, 2) := by decide +kernel
theorem dX9_event_54 : decode cX9_event 54 = .ok (.iconst 0, 1) := by decide +kernel
theorem dX9_event_55 : decode cX9_event 55 = .ok (.istore 5, 2) := by decide +kernel
theorem dX9_event_57 : decode cX9_event 57 = .ok (.iload 5, 2) := by decide +kernel
theorem dX9_event_59 : decode cX9_event 59 = .ok (.bipush 8, 2) := by decide +kernel
theorem dX9_event_61 : decode cX9_event 61 = .ok (.if_icmp .ge 67, 3) := by decide +kernel
theorem dX9_event_64 : decode cX9_event 64 = .ok (.iload 5, 2) := by decide +kernel
theorem dX9_event_66 : decode cX9_event 66 = .ok (.iconst 4, 1) := by decide +kernel
theorem dX9_event_67 : decode cX9_event 67 = .ok (.irem, 1) := by decide +kernel
theorem dX9_event_68 : decode cX9_event 68 = .ok (.aload_n 0, 1) := by decide +kernel
theorem dX9_event_69 : decode cX9_event 69 = .ok (.invokevirtual 230, 3) := by decide +kernel
theorem dX9_event_72 : decode cX9_event 72 = .ok (.if_icmp .lt 6, 3) := by decide +kernel
theorem dX9_event_75 : decode cX9_event 75 = .ok (.goto 47, 3) := by decide +kernel
theorem dX9_event_78 : decode cX9_event 78 = .ok (.iload 4, 2) := by decide +kernel
theorem dX9_event_80 : decode cX9_event 80 = .ok (.aload_n 0, 1) := by decide +kernel
theorem dX9_event_81 : decode cX9_event 81 = .ok (.iload 5, 2) := by decide +kernel
theorem dX9_event_83 : decode cX9_event 83 = .ok (.invokevirtual 381, 3) := by decide +kernel
theorem dX9_event_86 : decode cX9_event 86 = .ok (.aload_n 0, 1) := by decide +kernel
theorem dX9_event_87 : decode cX9_event 87 = .ok (.iload_n 3, 1) := by decide +kernel
theorem dX9_event_88 : decode cX9_event 88 = .ok (.invokevirtual 381, 3) := by decide +kernel
theorem dX9_event_91 : decode cX9_event 91 = .ok (.if_icmp .lt 23, 3) := by decide +kernel
theorem dX9_event_94 : decode cX9_event 94 = .ok (.aload_n 0, 1) := by decide +kernel
theorem dX9_event_95 : decode cX9_event 95 = .ok (.iload 5, 2) := by decide +kernel
theorem dX9_event_97 : decode cX9_event 97 = .ok (.invokevirtual 381, 3) := by decide +kernel
theorem dX9_event_100 : decode cX9_event 100 = .ok (.aload_n 0, 1) := by decide +kernel
theorem dX9_event_101 : decode cX9_event 101 = .ok (.iload_n 3, 1) := by decide +kernel
theorem dX9_event_102 : decode cX9_event 102 = .ok (.invokevirtual 381, 3) := by decide +kernel
theorem dX9_event_105 : decode cX9_event 105 = .ok (.if_icmp .ne 13, 3) := by decide +kernel
theorem dX9_event_108 : decode cX9_event 108 = .ok (.iload 5, 2) := by decide +kernel
theorem dX9_event_110 : decode cX9_event 110 = .ok (.iload_n 3, 1) := by decide +kernel
theorem dX9_event_111 : decode cX9_event 111 = .ok (.if_icmp .ge 7, 3) := by decide +kernel
theorem dX9_event_114 : decode cX9_event 114 = .ok (.iconst 1, 1) := by decide +kernel
theorem dX9_event_115 : decode cX9_event 115 = .ok (.goto 4, 3) := by decide +kernel
theorem dX9_event_118 : decode cX9_event 118 = .ok (.iconst 0, 1) := by decide +kernel
theorem dX9_event_119 : decode cX9_event 119 = .ok (.iadd, 1) := by decide +kernel
theorem dX9_event_120 : decode cX9_event 120 = .ok (.istore 4, 2) := by decide +kernel
theorem dX9_event_122 : decode cX9_event 122 = .ok (.iinc 5 1, 3) := by decide +kernel
theorem dX9_event_125 : decode cX9_event 125 = .ok (.goto (-68), 3) := by decide +kernel
theorem dX9_event_128 : decode cX9_event 128 = .ok (.iload 4, 2) := by decide +kernel
theorem dX9_event_130 : decode cX9_event 130 = .ok (.iload_n 1, 1) := by decide +kernel
theorem dX9_event_131 : decode cX9_event 131 = .ok (.if_icmp .ne 30, 3) := by decide +kernel
theorem dX9_event_134 : decode cX9_event 134 = .ok (.iload_n 2, 1) := by decide +kernel
theorem dX9_event_135 : decode cX9_event 135 = .ok (.ifCond .ne 11, 3) := by decide +kernel
theorem dX9_event_138 : decode cX9_event 138 = .ok (.aload_n 0, 1) := by decide +kernel
theorem dX9_event_139 : decode cX9_event 139 = .ok (.iload_n 3, 1) := by decide +kernel
theorem dX9_event_140 : decode cX9_event 140 = .ok (.invokevirtual 381, 3) := by decide +kernel
theorem dX9_event_143 : decode cX9_event 143 = .ok (.goto 17, 3) := by decide +kernel
theorem dX9_event_146 : decode cX9_event 146 = .ok (.iload_n 2, 1) := by decide +kernel
theorem dX9_event_147 : decode cX9_event 147 = .ok (.iconst 1, 1) := by decide +kernel
theorem dX9_event_148 : decode cX9_event 148 = .ok (.if_icmp .ne 9, 3) := by decide +kernel
theorem dX9_event_151 : decode cX9_event 151 = .ok (.iload_n 3, 1) := by decide +kernel
theorem dX9_event_152 : decode cX9_event 152 = .ok (.iconst 4, 1) := by decide +kernel
theorem dX9_event_153 : decode cX9_event 153 = .ok (.irem, 1) := by decide +kernel
theorem dX9_event_154 : decode cX9_event 154 = .ok (.goto 6, 3) := by decide +kernel
theorem dX9_event_157 : decode cX9_event 157 = .ok (.iload_n 3, 1) := by decide +kernel
theorem dX9_event_158 : decode cX9_event 158 = .ok (.iconst 4, 1) := by decide +kernel
theorem dX9_event_159 : decode cX9_event 159 = .ok (.idiv, 1) := by decide +kernel
theorem dX9_event_160 : decode cX9_event 160 = .ok (.ireturn, 1) := by decide +kernel
theorem dX9_event_161 : decode cX9_event 161 = .ok (.iinc 3 1, 3) := by decide +kernel
theorem dX9_event_164 : decode cX9_event 164 = .ok (.goto (-132), 3) := by decide +kernel
theorem dX9_event_167 : decode cX9_event 167 = .ok (.iconst (-1), 1) := by decide +kernel
theorem dX9_event_168 : decode cX9_event 168 = .ok (.ireturn, 1) := by decide +kernel
theorem dX9_open_0 : decode cX9_open 0 = .ok (.aload_n 0, 1) := by decide +kernel
theorem dX9_open_1 : decode cX9_open 1 = .ok (.iconst 0, 1) := by decide +kernel
theorem dX9_open_2 : decode cX9_open 2 = .ok (.putfield 103, 3) := by decide +kernel
theorem dX9_open_5 : decode cX9_open 5 = .ok (.bipush 64, 2) := by decide +kernel
theorem dX9_open_7 : decode cX9_open 7 = .ok (.aload_n 0, 1) := by decide +kernel
theorem dX9_open_8 : decode cX9_open 8 = .ok (.getfield 63, 3) := by decide +kernel
theorem dX9_open_11 : decode cX9_open 11 = .ok (.iconst 0, 1) := by decide +kernel
theorem dX9_open_12 : decode cX9_open 12 = .ok (.iaload, 1) := by decide +kernel
theorem dX9_open_13 : decode cX9_open 13 = .ok (.imul, 1) := by decide +kernel
theorem dX9_open_14 : decode cX9_open 14 = .ok (.istore_n 2, 1) := by decide +kernel
theorem dX9_open_15 : decode cX9_open 15 = .ok (.iload_n 1, 1) := by decide +kernel
theorem dX9_open_16 : decode cX9_open 16 = .ok (.ifCond .lt 8, 3) := by decide +kernel
theorem dX9_open_19 : decode cX9_open 19 = .ok (.iload_n 1, 1) := by decide +kernel
theorem dX9_open_20 : decode cX9_open 20 = .ok (.iload_n 2, 1) := by decide +kernel
theorem dX9_open_21 : decode cX9_open 21 = .ok (.if_icmp .lt 5, 3) := by decide +kernel
theorem dX9_open_24 : decode cX9_open 24 = .ok (.iconst (-1), 1) := by decide +kernel
theorem dX9_open_25 : decode cX9_open 25 = .ok (.ireturn, 1) := by decide +kernel
theorem dX9_open_26 : decode cX9_open 26 = .ok (.iconst 0, 1) := by decide +kernel
theorem dX9_open_27 : decode cX9_open 27 = .ok (.istore_n 3, 1) := by decide +kernel
theorem dX9_open_28 : decode cX9_open 28 = .ok (.iconst 0, 1) := by decide +kernel
theorem dX9_open_29 : decode cX9_open 29 = .ok (.istore 4, 2) := by decide +kernel
theorem dX9_open_31 : decode cX9_open 31 = .ok (.iload 4, 2) := by decide +kernel
theorem dX9_open_33 : decode cX9_open 33 = .ok (.aload_n 0, 1) := by decide +kernel
theorem dX9_open_34 : decode cX9_open 34 = .ok (.invokevirtual 230, 3) := by decide +kernel
theorem dX9_open_37 : decode cX9_open 37 = .ok (.if_icmp .ge 69, 3) := by decide +kernel
theorem dX9_open_40 : decode cX9_open 40 = .ok (.iload_n 1, 1) := by decide +kernel
theorem dX9_open_41 : decode cX9_open 41 = .ok (.aload_n 0, 1) := by decide +kernel
theorem dX9_open_42 : decode cX9_open 42 = .ok (.getfield 63, 3) := by decide +kernel
theorem dX9_open_45 : decode cX9_open 45 = .ok (.iconst 1, 1) := by decide +kernel
theorem dX9_open_46 : decode cX9_open 46 = .ok (.iload 4, 2) := by decide +kernel
theorem dX9_open_48 : decode cX9_open 48 = .ok (.iadd, 1) := by decide +kernel
theorem dX9_open_49 : decode cX9_open 49 = .ok (.iaload, 1) := by decide +kernel
theorem dX9_open_50 : decode cX9_open 50 = .ok (.aload_n 0, 1) := by decide +kernel
theorem dX9_open_51 : decode cX9_open 51 = .ok (.getfield 63, 3) := by decide +kernel
theorem dX9_open_54 : decode cX9_open 54 = .ok (.iconst 0, 1) := by decide +kernel
theorem dX9_open_55 : decode cX9_open 55 = .ok (.iaload, 1) := by decide +kernel
theorem dX9_open_56 : decode cX9_open 56 = .ok (.imul, 1) := by decide +kernel
theorem dX9_open_57 : decode cX9_open 57 = .ok (.isub, 1) := by decide +kernel
theorem dX9_open_58 : decode cX9_open 58 = .ok (.istore 5, 2) := by decide +kernel
theorem dX9_open_60 : decode cX9_open 60 = .ok (.iload 5, 2) := by decide +kernel
theorem dX9_open_62 : decode cX9_open 62 = .ok (.ifCond .ge 9, 3) := by decide +kernel
theorem dX9_open_65 : decode cX9_open 65 = .ok (.iload 5, 2) := by decide +kernel
theorem dX9_open_67 : decode cX9_open 67 = .ok (.iload_n 2, 1) := by decide +kernel
theorem dX9_open_68 : decode cX9_open 68 = .ok (.iadd, 1) := by decide +kernel
theorem dX9_open_69 : decode cX9_open 69 = .ok (.istore 5, 2) := by decide +kernel
theorem dX9_open_71 : decode cX9_open 71 = .ok (.iload_n 3, 1) := by decide +kernel
theorem dX9_open_72 : decode cX9_open 72 = .ok (.iload 5, 2) := by decide +kernel
theorem dX9_open_74 : decode cX9_open 74 = .ok (.aload_n 0, 1) := by decide +kernel
theorem dX9_open_75 : decode cX9_open 75 = .ok (.getfield 63, 3) := by decide +kernel
theorem dX9_open_78 : decode cX9_open 78 = .ok (.iconst 5, 1) := by decide +kernel
theorem dX9_open_79 : decode cX9_open 79 = .ok (.iload 4, 2) := by decide +kernel
theorem dX9_open_81 : decode cX9_open 81 = .ok (.iadd, 1) := by decide +kernel
theorem dX9_open_82 : decode cX9_open 82 = .ok (.iaload, 1) := by decide +kernel
theorem dX9_open_83 : decode cX9_open 83 = .ok (.aload_n 0, 1) := by decide +kernel
theorem dX9_open_84 : decode cX9_open 84 = .ok (.getfield 63, 3) := by decide +kernel
theorem dX9_open_87 : decode cX9_open 87 = .ok (.iconst 0, 1) := by decide +kernel
theorem dX9_open_88 : decode cX9_open 88 = .ok (.iaload, 1) := by decide +kernel
theorem dX9_open_89 : decode cX9_open 89 = .ok (.imul, 1) := by decide +kernel
theorem dX9_open_90 : decode cX9_open 90 = .ok (.if_icmp .ge 7, 3) := by decide +kernel
theorem dX9_open_93 : decode cX9_open 93 = .ok (.iconst 1, 1) := by decide +kernel
theorem dX9_open_94 : decode cX9_open 94 = .ok (.goto 4, 3) := by decide +kernel
theorem dX9_open_97 : decode cX9_open 97 = .ok (.iconst 0, 1) := by decide +kernel
theorem dX9_open_98 : decode cX9_open 98 = .ok (.iadd, 1) := by decide +kernel
theorem dX9_open_99 : decode cX9_open 99 = .ok (.istore_n 3, 1) := by decide +kernel
theorem dX9_open_100 : decode cX9_open 100 = .ok (.iinc 4 1, 3) := by decide +kernel
theorem dX9_open_103 : decode cX9_open 103 = .ok (.goto (-72), 3) := by decide +kernel
theorem dX9_open_106 : decode cX9_open 106 = .ok (.iload_n 3, 1) := by decide +kernel
theorem dX9_open_107 : decode cX9_open 107 = .ok (.ireturn, 1) := by decide +kernel
theorem dX9_draw_0 : decode cX9_draw 0 = .ok (.aload_n 0, 1) := by decide +kernel
theorem dX9_draw_1 : decode cX9_draw 1 = .ok (.aload_n 0, 1) := by decide +kernel
theorem dX9_draw_2 : decode cX9_draw 2 = .ok (.getfield 384, 3) := by decide +kernel
theorem dX9_draw_5 : decode cX9_draw 5 = .ok (.ldc_w 387, 3) := by decide +kernel
theorem dX9_draw_8 : decode cX9_draw 8 = .ok (.imul, 1) := by decide +kernel
theorem dX9_draw_9 : decode cX9_draw 9 = .ok (.sipush 12345, 3) := by decide +kernel
theorem dX9_draw_12 : decode cX9_draw 12 = .ok (.iadd, 1) := by decide +kernel
theorem dX9_draw_13 : decode cX9_draw 13 = .ok (.ldc_w 388, 3) := by decide +kernel
theorem dX9_draw_16 : decode cX9_draw 16 = .ok (.iand, 1) := by decide +kernel
theorem dX9_draw_17 : decode cX9_draw 17 = .ok (.putfield 384, 3) := by decide +kernel
theorem dX9_draw_20 : decode cX9_draw 20 = .ok (.aload_n 0, 1) := by decide +kernel
theorem dX9_draw_21 : decode cX9_draw 21 = .ok (.getfield 384, 3) := by decide +kernel
theorem dX9_draw_24 : decode cX9_draw 24 = .ok (.bipush 16, 2) := by decide +kernel
theorem dX9_draw_26 : decode cX9_draw 26 = .ok (.ishr, 1) := by decide +kernel
theorem dX9_draw_27 : decode cX9_draw 27 = .ok (.iload_n 1, 1) := by decide +kernel
theorem dX9_draw_28 : decode cX9_draw 28 = .ok (.irem, 1) := by decide +kernel
theorem dX9_draw_29 : decode cX9_draw 29 = .ok (.ireturn, 1) := by decide +kernel
theorem dX9_chance_0 : decode cX9_chance 0 = .ok (.aload_n 0, 1) := by decide +kernel
theorem dX9_chance_1 : decode cX9_chance 1 = .ok (.iconst 0, 1) := by decide +kernel
theorem dX9_chance_2 : decode cX9_chance 2 = .ok (.putfield 103, 3) := by decide +kernel
theorem dX9_chance_5 : decode cX9_chance 5 = .ok (.iload_n 1, 1) := by decide +kernel
theorem dX9_chance_6 : decode cX9_chance 6 = .ok (.iconst (-1), 1) := by decide +kernel
theorem dX9_chance_7 : decode cX9_chance 7 = .ok (.if_icmp .lt 23, 3) := by decide +kernel
theorem dX9_chance_10 : decode cX9_chance 10 = .ok (.iload_n 2, 1) := by decide +kernel
theorem dX9_chance_11 : decode cX9_chance 11 = .ok (.iconst 1, 1) := by decide +kernel
theorem dX9_chance_12 : decode cX9_chance 12 = .ok (.if_icmp .lt 18, 3) := by decide +kernel
theorem dX9_chance_15 : decode cX9_chance 15 = .ok (.iload_n 2, 1) := by decide +kernel
theorem dX9_chance_16 : decode cX9_chance 16 = .ok (.bipush 40, 2) := by decide +kernel
theorem dX9_chance_18 : decode cX9_chance 18 = .ok (.if_icmp .gt 12, 3) := by decide +kernel
theorem dX9_chance_21 : decode cX9_chance 21 = .ok (.iload_n 3, 1) := by decide +kernel
theorem dX9_chance_22 : decode cX9_chance 22 = .ok (.ifCond .lt 8, 3) := by decide +kernel
theorem dX9_chance_25 : decode cX9_chance 25 = .ok (.iload_n 3, 1) := by decide +kernel
theorem dX9_chance_26 : decode cX9_chance 26 = .ok (.iconst 2, 1) := by decide +kernel
theorem dX9_chance_27 : decode cX9_chance 27 = .ok (.if_icmp .le 5, 3) := by decide +kernel
theorem dX9_chance_30 : decode cX9_chance 30 = .ok (.iconst (-1), 1) := by decide +kernel
theorem dX9_chance_31 : decode cX9_chance 31 = .ok (.ireturn, 1) := by decide +kernel
theorem dX9_chance_32 : decode cX9_chance 32 = .ok (.aload_n 0, 1) := by decide +kernel
theorem dX9_chance_33 : decode cX9_chance 33 = .ok (.iload_n 1, 1) := by decide +kernel
theorem dX9_chance_34 : decode cX9_chance 34 = .ok (.iconst (-1), 1) := by decide +kernel
theorem dX9_chance_35 : decode cX9_chance 35 = .ok (.if_icmp .ne 12, 3) := by decide +kernel
theorem dX9_chance_38 : decode cX9_chance 38 = .ok (.aload_n 0, 1) := by decide +kernel
theorem dX9_chance_39 : decode cX9_chance 39 = .ok (.getfield 13, 3) := by decide +kernel
theorem dX9_chance_42 : decode cX9_chance 42 = .ok (.iconst 4, 1) := by decide +kernel
theorem dX9_chance_43 : decode cX9_chance 43 = .ok (.iaload, 1) := by decide +kernel
theorem dX9_chance_44 : decode cX9_chance 44 = .ok (.goto 4, 3) := by decide +kernel
theorem dX9_chance_47 : decode cX9_chance 47 = .ok (.iload_n 1, 1) := by decide +kernel
theorem dX9_chance_48 : decode cX9_chance 48 = .ok (.putfield 384, 3) := by decide +kernel
theorem dX9_chance_51 : decode cX9_chance 51 = .ok (.iconst 0, 1) := by decide +kernel
theorem dX9_chance_52 : decode cX9_chance 52 = .ok (.istore 4, 2) := by decide +kernel
theorem dX9_chance_54 : decode cX9_chance 54 = .ok (.iload 4, 2) := by decide +kernel
theorem dX9_chance_56 : decode cX9_chance 56 = .ok (.aload_n 0, 1) := by decide +kernel
theorem dX9_chance_57 : decode cX9_chance 57 = .ok (.invokevirtual 236, 3) := by decide +kernel
theorem dX9_chance_60 : decode cX9_chance 60 = .ok (.if_icmp .ge 26, 3) := by decide +kernel
theorem dX9_chance_63 : decode cX9_chance 63 = .ok (.aload_n 0, 1) := by decide +kernel
theorem dX9_chance_64 : decode cX9_chance 64 = .ok (.getfield 91, 3) := by decide +kernel
theorem dX9_chance_67 : decode cX9_chance 67 = .ok (.iload 4, 2) := by decide +kernel
theorem dX9_chance_69 : decode cX9_chance 69 = .ok (.aload_n 0, 1) := by decide +kernel
theorem dX9_chance_70 : decode cX9_chance 70 = .ok (.getfield 63, 3) := by decide +kernel
theorem dX9_chance_73 : decode cX9_chance 73 = .ok (.bipush 19, 2) := by decide +kernel
theorem dX9_chance_75 : decode cX9_chance 75 = .ok (.iload 4, 2) := by decide +kernel
theorem dX9_chance_77 : decode cX9_chance 77 = .ok (.iadd, 1) := by decide +kernel
theorem dX9_chance_78 : decode cX9_chance 78 = .ok (.iaload, 1) := by decide +kernel
theorem dX9_chance_79 : decode cX9_chance 79 = .ok (.iastore, 1) := by decide +kernel
theorem dX9_chance_80 : decode cX9_chance 80 = .ok (.iinc 4 1, 3) := by decide +kernel
theorem dX9_chance_83 : decode cX9_chance 83 = .ok (.goto (-29), 3) := by decide +kernel
theorem dX9_chance_86 : decode cX9_chance 86 = .ok (.iconst 0, 1) := by decide +kernel
theorem dX9_chance_87 : decode cX9_chance 87 = .ok (.istore 4, 2) := by decide +kernel
theorem dX9_chance_89 : decode cX9_chance 89 = .ok (.iconst 0, 1) := by decide +kernel
theorem dX9_chance_90 : decode cX9_chance 90 = .ok (.istore 5, 2) := by decide +kernel
theorem dX9_chance_92 : decode cX9_chance 92 = .ok (.iconst 0, 1) := by decide +kernel
theorem dX9_chance_93 : decode cX9_chance 93 = .ok (.istore 6, 2) := by decide +kernel
theorem dX9_chance_95 : decode cX9_chance 95 = .ok (.iconst 0, 1) := by decide +kernel
theorem dX9_chance_96 : decode cX9_chance 96 = .ok (.istore 7, 2) := by decide +kernel
theorem dX9_chance_98 : decode cX9_chance 98 = .ok (.iload 7, 2) := by decide +kernel
theorem dX9_chance_100 : decode cX9_chance 100 = .ok (.iload_n 2, 1) := by decide +kernel
theorem dX9_chance_101 : decode cX9_chance 101 = .ok (.if_icmp .ge 137, 3) := by decide +kernel
theorem dX9_chance_104 : decode cX9_chance 104 = .ok (.iconst 0, 1) := by decide +kernel
theorem dX9_chance_105 : decode cX9_chance 105 = .ok (.istore 8, 2) := by decide +kernel
theorem dX9_chance_107 : decode cX9_chance 107 = .ok (.iload 8, 2) := by decide +kernel
theorem dX9_chance_109 : decode cX9_chance 109 = .ok (.aload_n 0, 1) := by decide +kernel
theorem dX9_chance_110 : decode cX9_chance 110 = .ok (.invokevirtual 236, 3) := by decide +kernel
theorem dX9_chance_113 : decode cX9_chance 113 = .ok (.if_icmp .ge 54, 3) := by decide +kernel
theorem dX9_chance_116 : decode cX9_chance 116 = .ok (.aload_n 0, 1) := by decide +kernel
theorem dX9_chance_117 : decode cX9_chance 117 = .ok (.getfield 63, 3) := by decide +kernel
theorem dX9_chance_120 : decode cX9_chance 120 = .ok (.bipush 19, 2) := by decide +kernel
theorem dX9_chance_122 : decode cX9_chance 122 = .ok (.iload 8, 2) := by decide +kernel
theorem dX9_chance_124 : decode cX9_chance 124 = .ok (.iadd, 1) := by decide +kernel
theorem dX9_chance_125 : decode cX9_chance 125 = .ok (.aload_n 0, 1) := by decide +kernel
theorem dX9_chance_126 : decode cX9_chance 126 = .ok (.getfield 63, 3) := by decide +kernel
theorem dX9_chance_129 : decode cX9_chance 129 = .ok (.bipush 43, 2) := by decide +kernel
theorem dX9_chance_131 : decode cX9_chance 131 = .ok (.iload 8, 2) := by decide +kernel
theorem dX9_chance_133 : decode cX9_chance 133 = .ok (.iadd, 1) := by decide +kernel
theorem dX9_chance_134 : decode cX9_chance 134 = .ok (.iaload, 1) := by decide +kernel
theorem dX9_chance_135 : decode cX9_chance 135 = .ok (.aload_n 0, 1) := by decide +kernel
theorem dX9_chance_136 : decode cX9_chance 136 = .ok (.aload_n 0, 1) := by decide +kernel
theorem dX9_chance_137 : decode cX9_chance 137 = .ok (.getfield 91, 3) := by decide +kernel
theorem dX9_chance_140 : decode cX9_chance 140 = .ok (.iload 8, 2) := by decide +kernel
theorem dX9_chance_142 : decode cX9_chance 142 = .ok (.iaload, 1) := by decide +kernel
theorem dX9_chance_143 : decode cX9_chance 143 = .ok (.aload_n 0, 1) := by decide +kernel
theorem dX9_chance_144 : decode cX9_chance 144 = .ok (.getfield 63, 3) := by decide +kernel
theorem dX9_chance_147 : decode cX9_chance 147 = .ok (.bipush 43, 2) := by decide +kernel
theorem dX9_chance_149 : decode cX9_chance 149 = .ok (.iload 8, 2) := by decide +kernel
theorem dX9_chance_151 : decode cX9_chance 151 = .ok (.iadd, 1) := by decide +kernel
theorem dX9_chance_152 : decode cX9_chance 152 = .ok (.iaload, 1) := by decide +kernel
theorem dX9_chance_153 : decode cX9_chance 153 = .ok (.isub, 1) := by decide +kernel
theorem dX9_chance_154 : decode cX9_chance 154 = .ok (.iconst 1, 1) := by decide +kernel
theorem dX9_chance_155 : decode cX9_chance 155 = .ok (.iadd, 1) := by decide +kernel
theorem dX9_chance_156 : decode cX9_chance 156 = .ok (.invokevirtual 389, 3) := by decide +kernel
theorem dX9_chance_159 : decode cX9_chance 159 = .ok (.iadd, 1) := by decide +kernel
theorem dX9_chance_160 : decode cX9_chance 160 = .ok (.iastore, 1) := by decide +kernel
theorem dX9_chance_161 : decode cX9_chance 161 = .ok (.iinc 8 1, 3) := by decide +kernel
theorem dX9_chance_164 : decode cX9_chance 164 = .ok (.goto (-57), 3) := by decide +kernel
theorem dX9_chance_167 : decode cX9_chance 167 = .ok (.iload 4, 2) := by decide +kernel
theorem dX9_chance_169 : decode cX9_chance 169 = .ok (.aload_n 0, 1) := by decide +kernel
theorem dX9_chance_170 : decode cX9_chance 170 = .ok (.invokevirtual 328, 3) := by decide +kernel
theorem dX9_chance_173 : decode cX9_chance 173 = .ok (.ifCond .eq 7, 3) := by decide +kernel
theorem dX9_chance_176 : decode cX9_chance 176 = .ok (.iconst 1, 1) := by decide +kernel
theorem dX9_chance_177 : decode cX9_chance 177 = .ok (.goto 4, 3) := by decide +kernel
theorem dX9_chance_180 : decode cX9_chance 180 = .ok (.iconst 0, 1) := by decide +kernel
theorem dX9_chance_181 : decode cX9_chance 181 = .ok (.iadd, 1) := by decide +kernel
theorem dX9_chance_182 : decode cX9_chance 182 = .ok (.istore 4, 2) := by decide +kernel
theorem dX9_chance_184 : decode cX9_chance 184 = .ok (.iload 5, 2) := by decide +kernel
theorem dX9_chance_186 : decode cX9_chance 186 = .ok (.aload_n 0, 1) := by decide +kernel
theorem dX9_chance_187 : decode cX9_chance 187 = .ok (.getfield 303, 3) := by decide +kernel
theorem dX9_chance_190 : decode cX9_chance 190 = .ok (.ifCond .eq 7, 3) := by decide +kernel
theorem dX9_chance_193 : decode cX9_chance 193 = .ok (.iconst 1, 1) := by decide +kernel
theorem dX9_chance_194 : decode cX9_chance 194 = .ok (.goto 4, 3) := by decide +kernel
theorem dX9_chance_197 : decode cX9_chance 197 = .ok (.iconst 0, 1) := by decide +kernel
theorem dX9_chance_198 : decode cX9_chance 198 = .ok (.iadd, 1) := by decide +kernel
theorem dX9_chance_199 : decode cX9_chance 199 = .ok (.istore 5, 2) := by decide +kernel
theorem dX9_chance_201 : decode cX9_chance 201 = .ok (.iload_n 3, 1) := by decide +kernel
theorem dX9_chance_202 : decode cX9_chance 202 = .ok (.iconst 2, 1) := by decide +kernel
theorem dX9_chance_203 : decode cX9_chance 203 = .ok (.if_icmp .ne 10, 3) := by decide +kernel
theorem dX9_chance_206 : decode cX9_chance 206 = .ok (.aload_n 0, 1) := by decide +kernel
theorem dX9_chance_207 : decode cX9_chance 207 = .ok (.invokevirtual 366, 3) := by decide +kernel
theorem dX9_chance_210 : decode cX9_chance 210 = .ok (.goto 4, 3) := by decide +kernel
theorem dX9_chance_213 : decode cX9_chance 213 = .ok (.iconst 0, 1) := by decide +kernel
theorem dX9_chance_214 : decode cX9_chance 214 = .ok (.istore 8, 2) := by decide +kernel
theorem dX9_chance_216 : decode cX9_chance 216 = .ok (.iload 8, 2) := by decide +kernel
theorem dX9_chance_218 : decode cX9_chance 218 = .ok (.iload 6, 2) := by decide +kernel
theorem dX9_chance_220 : decode cX9_chance 220 = .ok (.if_icmp .le 8, 3) := by decide +kernel
theorem dX9_chance_223 : decode cX9_chance 223 = .ok (.iload 8, 2) := by decide +kernel
theorem dX9_chance_225 : decode cX9_chance 225 = .ok (.goto 5, 3) := by decide +kernel
theorem dX9_chance_228 : decode cX9_chance 228 = .ok (.iload 6, 2) := by decide +kernel
theorem dX9_chance_230 : decode cX9_chance 230 = .ok (.istore 6, 2) := by decide +kernel
theorem dX9_chance_232 : decode cX9_chance 232 = .ok (.iinc 7 1, 3) := by decide +kernel
theorem dX9_chance_235 : decode cX9_chance 235 = .ok (.goto (-137), 3) := by decide +kernel
theorem dX9_chance_238 : decode cX9_chance 238 = .ok (.iconst 0, 1) := by decide +kernel
theorem dX9_chance_239 : decode cX9_chance 239 = .ok (.istore 7, 2) := by decide +kernel
theorem dX9_chance_241 : decode cX9_chance 241 = .ok (.iload 7, 2) := by decide +kernel
theorem dX9_chance_243 : decode cX9_chance 243 = .ok (.aload_n 0, 1) := by decide +kernel
theorem dX9_chance_244 : decode cX9_chance 244 = .ok (.invokevirtual 236, 3) := by decide +kernel
theorem dX9_chance_247 : decode cX9_chance 247 = .ok (.if_icmp .ge 26, 3) := by decide +kernel
theorem dX9_chance_250 : decode cX9_chance 250 = .ok (.aload_n 0, 1) := by decide +kernel
theorem dX9_chance_251 : decode cX9_chance 251 = .ok (.getfield 63, 3) := by decide +kernel
theorem dX9_chance_254 : decode cX9_chance 254 = .ok (.bipush 19, 2) := by decide +kernel
theorem dX9_chance_256 : decode cX9_chance 256 = .ok (.iload 7, 2) := by decide +kernel
theorem dX9_chance_258 : decode cX9_chance 258 = .ok (.iadd, 1) := by decide +kernel
theorem dX9_chance_259 : decode cX9_chance 259 = .ok (.aload_n 0, 1) := by decide +kernel
theorem dX9_chance_260 : decode cX9_chance 260 = .ok (.getfield 91, 3) := by decide +kernel
theorem dX9_chance_263 : decode cX9_chance 263 = .ok (.iload 7, 2) := by decide +kernel
theorem dX9_chance_265 : decode cX9_chance 265 = .ok (.iaload, 1) := by decide +kernel
theorem dX9_chance_266 : decode cX9_chance 266 = .ok (.iastore, 1) := by decide +kernel
theorem dX9_chance_267 : decode cX9_chance 267 = .ok (.iinc 7 1, 3) := by decide +kernel
theorem dX9_chance_270 : decode cX9_chance 270 = .ok (.goto (-29), 3) := by decide +kernel
theorem dX9_chance_273 : decode cX9_chance 273 = .ok (.iload_n 3, 1) := by decide +kernel
theorem dX9_chance_274 : decode cX9_chance 274 = .ok (.ifCond .ne 8, 3) := by decide +kernel
theorem dX9_chance_277 : decode cX9_chance 277 = .ok (.iload 4, 2) := by decide +kernel
theorem dX9_chance_279 : decode cX9_chance 279 = .ok (.goto 15, 3) := by decide +kernel
theorem dX9_chance_282 : decode cX9_chance 282 = .ok (.iload_n 3, 1) := by decide +kernel
theorem dX9_chance_283 : decode cX9_chance 283 = .ok (.iconst 1, 1) := by decide +kernel
theorem dX9_chance_284 : decode cX9_chance 284 = .ok (.if_icmp .ne 8, 3) := by decide +kernel
theorem dX9_chance_287 : decode cX9_chance 287 = .ok (.iload 5, 2) := by decide +kernel
theorem dX9_chance_289 : decode cX9_chance 289 = .ok (.goto 5, 3) := by decide +kernel
theorem dX9_chance_292 : decode cX9_chance 292 = .ok (.iload 6, 2) := by decide +kernel
theorem dX9_chance_294 : decode cX9_chance 294 = .ok (.ireturn, 1) := by decide +kernel
theorem dX9_flopMany_0 : decode cX9_flopMany 0 = .ok (.iconst 0, 1) := by decide +kernel
theorem dX9_flopMany_1 : decode cX9_flopMany 1 = .ok (.istore_n 1, 1) := by decide +kernel
theorem dX9_flopMany_2 : decode cX9_flopMany 2 = .ok (.iconst 0, 1) := by decide +kernel
theorem dX9_flopMany_3 : decode cX9_flopMany 3 = .ok (.istore_n 2, 1) := by decide +kernel
theorem dX9_flopMany_4 : decode cX9_flopMany 4 = .ok (.iload_n 2, 1) := by decide +kernel
theorem dX9_flopMany_5 : decode cX9_flopMany 5 = .ok (.aload_n 0, 1) := by decide +kernel
theorem dX9_flopMany_6 : decode cX9_flopMany 6 = .ok (.invokevirtual 233, 3) := by decide +kernel
theorem dX9_flopMany_9 : decode cX9_flopMany 9 = .ok (.if_icmp .ge 25, 3) := by decide +kernel
theorem dX9_flopMany_12 : decode cX9_flopMany 12 = .ok (.iload_n 1, 1) := by decide +kernel
theorem dX9_flopMany_13 : decode cX9_flopMany 13 = .ok (.aload_n 0, 1) := by decide +kernel
theorem dX9_flopMany_14 : decode cX9_flopMany 14 = .ok (.iload_n 2, 1) := by decide +kernel
theorem dX9_flopMany_15 : decode cX9_flopMany 15 = .ok (.invokevirtual 281, 3) := by decide +kernel
theorem dX9_flopMany_18 : decode cX9_flopMany 18 = .ok (.ifCond .eq 7, 3) := by decide +kernel
theorem dX9_flopMany_21 : decode cX9_flopMany 21 = .ok (.iconst 1, 1) := by decide +kernel
theorem dX9_flopMany_22 : decode cX9_flopMany 22 = .ok (.goto 4, 3) := by decide +kernel
theorem dX9_flopMany_25 : decode cX9_flopMany 25 = .ok (.iconst 0, 1) := by decide +kernel
theorem dX9_flopMany_26 : decode cX9_flopMany 26 = .ok (.iadd, 1) := by decide +kernel
theorem dX9_flopMany_27 : decode cX9_flopMany 27 = .ok (.istore_n 1, 1) := by decide +kernel
theorem dX9_flopMany_28 : decode cX9_flopMany 28 = .ok (.iinc 2 1, 3) := by decide +kernel
theorem dX9_flopMany_31 : decode cX9_flopMany 31 = .ok (.goto (-27), 3) := by decide +kernel
theorem dX9_flopMany_34 : decode cX9_flopMany 34 = .ok (.iload_n 1, 1) := by decide +kernel
theorem dX9_flopMany_35 : decode cX9_flopMany 35 = .ok (.ireturn, 1) := by decide +kernel
theorem dX9_count_0 : decode cX9_count 0 = .ok (.aload_n 0, 1) := by decide +kernel
theorem dX9_count_1 : decode cX9_count 1 = .ok (.iconst 0, 1) := by decide +kernel
theorem dX9_count_2 : decode cX9_count 2 = .ok (.putfield 103, 3) := by decide +kernel
theorem dX9_count_5 : decode cX9_count 5 = .ok (.iload_n 1, 1) := by decide +kernel
theorem dX9_count_6 : decode cX9_count 6 = .ok (.tableswitch 105 0 8 #[50, 55, 60, 65, 72, 77, 82, 87, 95], 50) := by decide +kernel
theorem dX9_count_56 : decode cX9_count 56 = .ok (.aload_n 0, 1) := by decide +kernel
theorem dX9_count_57 : decode cX9_count 57 = .ok (.invokevirtual 230, 3) := by decide +kernel
theorem dX9_count_60 : decode cX9_count 60 = .ok (.ireturn, 1) := by decide +kernel
theorem dX9_count_61 : decode cX9_count 61 = .ok (.aload_n 0, 1) := by decide +kernel
theorem dX9_count_62 : decode cX9_count 62 = .ok (.invokevirtual 233, 3) := by decide +kernel
theorem dX9_count_65 : decode cX9_count 65 = .ok (.ireturn, 1) := by decide +kernel
theorem dX9_count_66 : decode cX9_count 66 = .ok (.aload_n 0, 1) := by decide +kernel
theorem dX9_count_67 : decode cX9_count 67 = .ok (.invokevirtual 236, 3) := by decide +kernel
theorem dX9_count_70 : decode cX9_count 70 = .ok (.ireturn, 1) := by decide +kernel
theorem dX9_count_71 : decode cX9_count 71 = .ok (.aload_n 0, 1) := by decide +kernel
theorem dX9_count_72 : decode cX9_count 72 = .ok (.getfield 63, 3) := by decide +kernel
theorem dX9_count_75 : decode cX9_count 75 = .ok (.iconst 0, 1) := by decide +kernel
theorem dX9_count_76 : decode cX9_count 76 = .ok (.iaload, 1) := by decide +kernel
theorem dX9_count_77 : decode cX9_count 77 = .ok (.ireturn, 1) := by decide +kernel
theorem dX9_count_78 : decode cX9_count 78 = .ok (.aload_n 0, 1) := by decide +kernel
theorem dX9_count_79 : decode cX9_count 79 = .ok (.invokevirtual 392, 3) := by decide +kernel
theorem dX9_count_82 : decode cX9_count 82 = .ok (.ireturn, 1) := by decide +kernel
theorem dX9_count_83 : decode cX9_count 83 = .ok (.aload_n 0, 1) := by decide +kernel
theorem dX9_count_84 : decode cX9_count 84 = .ok (.getfield 223, 3) := by decide +kernel
theorem dX9_count_87 : decode cX9_count 87 = .ok (.ireturn, 1) := by decide +kernel
theorem dX9_count_88 : decode cX9_count 88 = .ok (.aload_n 0, 1) := by decide +kernel
theorem dX9_count_89 : decode cX9_count 89 = .ok (.getfield 106, 3) := by decide +kernel
theorem dX9_count_92 : decode cX9_count 92 = .ok (.ireturn, 1) := by decide +kernel
theorem dX9_count_93 : decode cX9_count 93 = .ok (.aload_n 0, 1) := by decide +kernel
theorem dX9_count_94 : decode cX9_count 94 = .ok (.getfield 63, 3) := by decide +kernel
theorem dX9_count_97 : decode cX9_count 97 = .ok (.bipush 67, 2) := by decide +kernel
theorem dX9_count_99 : decode cX9_count 99 = .ok (.iaload, 1) := by decide +kernel
theorem dX9_count_100 : decode cX9_count 100 = .ok (.ireturn, 1) := by decide +kernel
theorem dX9_count_101 : decode cX9_count 101 = .ok (.aload_n 0, 1) := by decide +kernel
theorem dX9_count_102 : decode cX9_count 102 = .ok (.invokevirtual 233, 3) := by decide +kernel
theorem dX9_count_105 : decode cX9_count 105 = .ok (.aload_n 0, 1) := by decide +kernel
theorem dX9_count_106 : decode cX9_count 106 = .ok (.invokevirtual 392, 3) := by decide +kernel
theorem dX9_count_109 : decode cX9_count 109 = .ok (.isub, 1) := by decide +kernel
theorem dX9_count_110 : decode cX9_count 110 = .ok (.ireturn, 1) := by decide +kernel
theorem dX9_count_111 : decode cX9_count 111 = .ok (.iconst (-1), 1) := by decide +kernel
theorem dX9_count_112 : decode cX9_count 112 = .ok (.ireturn, 1) := by decide +kernel
theorem dJ6_bitCount_0f7a4_0 : decode cJ6_bitCount_0f7a4 0 = .ok (.iload_n 0, 1) := by decide +kernel
theorem dJ6_bitCount_0f7a4_1 : decode cJ6_bitCount_0f7a4 1 = .ok (.iload_n 0, 1) := by decide +kernel
theorem dJ6_bitCount_0f7a4_2 : decode cJ6_bitCount_0f7a4 2 = .ok (.iconst 1, 1) := by decide +kernel
theorem dJ6_bitCount_0f7a4_3 : decode cJ6_bitCount_0f7a4 3 = .ok (.iushr, 1) := by decide +kernel
theorem dJ6_bitCount_0f7a4_4 : decode cJ6_bitCount_0f7a4 4 = .ok (.ldc_w 265, 3) := by decide +kernel
theorem dJ6_bitCount_0f7a4_7 : decode cJ6_bitCount_0f7a4 7 = .ok (.iand, 1) := by decide +kernel
theorem dJ6_bitCount_0f7a4_8 : decode cJ6_bitCount_0f7a4 8 = .ok (.isub, 1) := by decide +kernel
theorem dJ6_bitCount_0f7a4_9 : decode cJ6_bitCount_0f7a4 9 = .ok (.istore_n 0, 1) := by decide +kernel
theorem dJ6_bitCount_0f7a4_10 : decode cJ6_bitCount_0f7a4 10 = .ok (.iload_n 0, 1) := by decide +kernel
theorem dJ6_bitCount_0f7a4_11 : decode cJ6_bitCount_0f7a4 11 = .ok (.ldc_w 266, 3) := by decide +kernel
theorem dJ6_bitCount_0f7a4_14 : decode cJ6_bitCount_0f7a4 14 = .ok (.iand, 1) := by decide +kernel
theorem dJ6_bitCount_0f7a4_15 : decode cJ6_bitCount_0f7a4 15 = .ok (.iload_n 0, 1) := by decide +kernel
theorem dJ6_bitCount_0f7a4_16 : decode cJ6_bitCount_0f7a4 16 = .ok (.iconst 2, 1) := by decide +kernel
theorem dJ6_bitCount_0f7a4_17 : decode cJ6_bitCount_0f7a4 17 = .ok (.iushr, 1) := by decide +kernel
theorem dJ6_bitCount_0f7a4_18 : decode cJ6_bitCount_0f7a4 18 = .ok (.ldc_w 266, 3) := by decide +kernel
theorem dJ6_bitCount_0f7a4_21 : decode cJ6_bitCount_0f7a4 21 = .ok (.iand, 1) := by decide +kernel
theorem dJ6_bitCount_0f7a4_22 : decode cJ6_bitCount_0f7a4 22 = .ok (.iadd, 1) := by decide +kernel
theorem dJ6_bitCount_0f7a4_23 : decode cJ6_bitCount_0f7a4 23 = .ok (.istore_n 0, 1) := by decide +kernel
theorem dJ6_bitCount_0f7a4_24 : decode cJ6_bitCount_0f7a4 24 = .ok (.iload_n 0, 1) := by decide +kernel
theorem dJ6_bitCount_0f7a4_25 : decode cJ6_bitCount_0f7a4 25 = .ok (.iload_n 0, 1) := by decide +kernel
theorem dJ6_bitCount_0f7a4_26 : decode cJ6_bitCount_0f7a4 26 = .ok (.iconst 4, 1) := by decide +kernel
theorem dJ6_bitCount_0f7a4_27 : decode cJ6_bitCount_0f7a4 27 = .ok (.iushr, 1) := by decide +kernel
theorem dJ6_bitCount_0f7a4_28 : decode cJ6_bitCount_0f7a4 28 = .ok (.iadd, 1) := by decide +kernel
theorem dJ6_bitCount_0f7a4_29 : decode cJ6_bitCount_0f7a4 29 = .ok (.ldc_w 267, 3) := by decide +kernel
theorem dJ6_bitCount_0f7a4_32 : decode cJ6_bitCount_0f7a4 32 = .ok (.iand, 1) := by decide +kernel
theorem dJ6_bitCount_0f7a4_33 : decode cJ6_bitCount_0f7a4 33 = .ok (.istore_n 0, 1) := by decide +kernel
theorem dJ6_bitCount_0f7a4_34 : decode cJ6_bitCount_0f7a4 34 = .ok (.iload_n 0, 1) := by decide +kernel
theorem dJ6_bitCount_0f7a4_35 : decode cJ6_bitCount_0f7a4 35 = .ok (.iload_n 0, 1) := by decide +kernel
theorem dJ6_bitCount_0f7a4_36 : decode cJ6_bitCount_0f7a4 36 = .ok (.bipush 8, 2) := by decide +kernel
theorem dJ6_bitCount_0f7a4_38 : decode cJ6_bitCount_0f7a4 38 = .ok (.iushr, 1) := by decide +kernel
theorem dJ6_bitCount_0f7a4_39 : decode cJ6_bitCount_0f7a4 39 = .ok (.iadd, 1) := by decide +kernel
theorem dJ6_bitCount_0f7a4_40 : decode cJ6_bitCount_0f7a4 40 = .ok (.istore_n 0, 1) := by decide +kernel
theorem dJ6_bitCount_0f7a4_41 : decode cJ6_bitCount_0f7a4 41 = .ok (.iload_n 0, 1) := by decide +kernel
theorem dJ6_bitCount_0f7a4_42 : decode cJ6_bitCount_0f7a4 42 = .ok (.iload_n 0, 1) := by decide +kernel
theorem dJ6_bitCount_0f7a4_43 : decode cJ6_bitCount_0f7a4 43 = .ok (.bipush 16, 2) := by decide +kernel
theorem dJ6_bitCount_0f7a4_45 : decode cJ6_bitCount_0f7a4 45 = .ok (.iushr, 1) := by decide +kernel
theorem dJ6_bitCount_0f7a4_46 : decode cJ6_bitCount_0f7a4 46 = .ok (.iadd, 1) := by decide +kernel
theorem dJ6_bitCount_0f7a4_47 : decode cJ6_bitCount_0f7a4 47 = .ok (.istore_n 0, 1) := by decide +kernel
theorem dJ6_bitCount_0f7a4_48 : decode cJ6_bitCount_0f7a4 48 = .ok (.iload_n 0, 1) := by decide +kernel
theorem dJ6_bitCount_0f7a4_49 : decode cJ6_bitCount_0f7a4 49 = .ok (.bipush 63, 2) := by decide +kernel
theorem dJ6_bitCount_0f7a4_51 : decode cJ6_bitCount_0f7a4 51 = .ok (.iand, 1) := by decide +kernel
theorem dJ6_bitCount_0f7a4_52 : decode cJ6_bitCount_0f7a4 52 = .ok (.ireturn, 1) := by decide +kernel
theorem dJ9_floorDiv_7cf53_0 : decode cJ9_floorDiv_7cf53 0 = .ok (.iload_n 0, 1) := by decide +kernel
theorem dJ9_floorDiv_7cf53_1 : decode cJ9_floorDiv_7cf53 1 = .ok (.iload_n 1, 1) := by decide +kernel
theorem dJ9_floorDiv_7cf53_2 : decode cJ9_floorDiv_7cf53 2 = .ok (.idiv, 1) := by decide +kernel
theorem dJ9_floorDiv_7cf53_3 : decode cJ9_floorDiv_7cf53 3 = .ok (.istore_n 2, 1) := by decide +kernel
theorem dJ9_floorDiv_7cf53_4 : decode cJ9_floorDiv_7cf53 4 = .ok (.iload_n 0, 1) := by decide +kernel
theorem dJ9_floorDiv_7cf53_5 : decode cJ9_floorDiv_7cf53 5 = .ok (.iload_n 1, 1) := by decide +kernel
theorem dJ9_floorDiv_7cf53_6 : decode cJ9_floorDiv_7cf53 6 = .ok (.ixor, 1) := by decide +kernel
theorem dJ9_floorDiv_7cf53_7 : decode cJ9_floorDiv_7cf53 7 = .ok (.ifCond .ge 14, 3) := by decide +kernel
theorem dJ9_floorDiv_7cf53_10 : decode cJ9_floorDiv_7cf53 10 = .ok (.iload_n 2, 1) := by decide +kernel
theorem dJ9_floorDiv_7cf53_11 : decode cJ9_floorDiv_7cf53 11 = .ok (.iload_n 1, 1) := by decide +kernel
theorem dJ9_floorDiv_7cf53_12 : decode cJ9_floorDiv_7cf53 12 = .ok (.imul, 1) := by decide +kernel
theorem dJ9_floorDiv_7cf53_13 : decode cJ9_floorDiv_7cf53 13 = .ok (.iload_n 0, 1) := by decide +kernel
theorem dJ9_floorDiv_7cf53_14 : decode cJ9_floorDiv_7cf53 14 = .ok (.if_icmp .eq 7, 3) := by decide +kernel
theorem dJ9_floorDiv_7cf53_17 : decode cJ9_floorDiv_7cf53 17 = .ok (.iload_n 2, 1) := by decide +kernel
theorem dJ9_floorDiv_7cf53_18 : decode cJ9_floorDiv_7cf53 18 = .ok (.iconst 1, 1) := by decide +kernel
theorem dJ9_floorDiv_7cf53_19 : decode cJ9_floorDiv_7cf53 19 = .ok (.isub, 1) := by decide +kernel
theorem dJ9_floorDiv_7cf53_20 : decode cJ9_floorDiv_7cf53 20 = .ok (.ireturn, 1) := by decide +kernel
theorem dJ9_floorDiv_7cf53_21 : decode cJ9_floorDiv_7cf53 21 = .ok (.iload_n 2, 1) := by decide +kernel
theorem dJ9_floorDiv_7cf53_22 : decode cJ9_floorDiv_7cf53 22 = .ok (.ireturn, 1) := by decide +kernel
theorem dJ9_floorMod_7cf53_0 : decode cJ9_floorMod_7cf53 0 = .ok (.iload_n 0, 1) := by decide +kernel
theorem dJ9_floorMod_7cf53_1 : decode cJ9_floorMod_7cf53 1 = .ok (.iload_n 1, 1) := by decide +kernel
theorem dJ9_floorMod_7cf53_2 : decode cJ9_floorMod_7cf53 2 = .ok (.irem, 1) := by decide +kernel
theorem dJ9_floorMod_7cf53_3 : decode cJ9_floorMod_7cf53 3 = .ok (.istore_n 2, 1) := by decide +kernel
theorem dJ9_floorMod_7cf53_4 : decode cJ9_floorMod_7cf53 4 = .ok (.iload_n 0, 1) := by decide +kernel
theorem dJ9_floorMod_7cf53_5 : decode cJ9_floorMod_7cf53 5 = .ok (.iload_n 1, 1) := by decide +kernel
theorem dJ9_floorMod_7cf53_6 : decode cJ9_floorMod_7cf53 6 = .ok (.ixor, 1) := by decide +kernel
theorem dJ9_floorMod_7cf53_7 : decode cJ9_floorMod_7cf53 7 = .ok (.ifCond .ge 11, 3) := by decide +kernel
theorem dJ9_floorMod_7cf53_10 : decode cJ9_floorMod_7cf53 10 = .ok (.iload_n 2, 1) := by decide +kernel
theorem dJ9_floorMod_7cf53_11 : decode cJ9_floorMod_7cf53 11 = .ok (.ifCond .eq 7, 3) := by decide +kernel
theorem dJ9_floorMod_7cf53_14 : decode cJ9_floorMod_7cf53 14 = .ok (.iload_n 2, 1) := by decide +kernel
theorem dJ9_floorMod_7cf53_15 : decode cJ9_floorMod_7cf53 15 = .ok (.iload_n 1, 1) := by decide +kernel
theorem dJ9_floorMod_7cf53_16 : decode cJ9_floorMod_7cf53 16 = .ok (.iadd, 1) := by decide +kernel
theorem dJ9_floorMod_7cf53_17 : decode cJ9_floorMod_7cf53 17 = .ok (.ireturn, 1) := by decide +kernel
theorem dJ9_floorMod_7cf53_18 : decode cJ9_floorMod_7cf53 18 = .ok (.iload_n 2, 1) := by decide +kernel
theorem dJ9_floorMod_7cf53_19 : decode cJ9_floorMod_7cf53 19 = .ok (.ireturn, 1) := by decide +kernel
theorem dJ7_fill_53178_0 : decode cJ7_fill_53178 0 = .ok (.iconst 0, 1) := by decide +kernel
theorem dJ7_fill_53178_1 : decode cJ7_fill_53178 1 = .ok (.istore_n 2, 1) := by decide +kernel
theorem dJ7_fill_53178_2 : decode cJ7_fill_53178 2 = .ok (.aload_n 0, 1) := by decide +kernel
theorem dJ7_fill_53178_3 : decode cJ7_fill_53178 3 = .ok (.arraylength, 1) := by decide +kernel
theorem dJ7_fill_53178_4 : decode cJ7_fill_53178 4 = .ok (.istore_n 3, 1) := by decide +kernel
theorem dJ7_fill_53178_5 : decode cJ7_fill_53178 5 = .ok (.iload_n 2, 1) := by decide +kernel
theorem dJ7_fill_53178_6 : decode cJ7_fill_53178 6 = .ok (.iload_n 3, 1) := by decide +kernel
theorem dJ7_fill_53178_7 : decode cJ7_fill_53178 7 = .ok (.if_icmp .ge 13, 3) := by decide +kernel
theorem dJ7_fill_53178_10 : decode cJ7_fill_53178 10 = .ok (.aload_n 0, 1) := by decide +kernel
theorem dJ7_fill_53178_11 : decode cJ7_fill_53178 11 = .ok (.iload_n 2, 1) := by decide +kernel
theorem dJ7_fill_53178_12 : decode cJ7_fill_53178 12 = .ok (.iload_n 1, 1) := by decide +kernel
theorem dJ7_fill_53178_13 : decode cJ7_fill_53178 13 = .ok (.iastore, 1) := by decide +kernel
theorem dJ7_fill_53178_14 : decode cJ7_fill_53178 14 = .ok (.iinc 2 1, 3) := by decide +kernel
theorem dJ7_fill_53178_17 : decode cJ7_fill_53178 17 = .ok (.goto (-12), 3) := by decide +kernel
theorem dJ7_fill_53178_20 : decode cJ7_fill_53178 20 = .ok (.return_, 1) := by decide +kernel
theorem dL_cell_0 : decode cL_cell 0 = .ok (.aload_n 3, 1) := by decide +kernel
theorem dL_cell_1 : decode cL_cell 1 = .ok (.iconst 0, 1) := by decide +kernel
theorem dL_cell_2 : decode cL_cell 2 = .ok (.aload_n 0, 1) := by decide +kernel
theorem dL_cell_3 : decode cL_cell 3 = .ok (.iload_n 1, 1) := by decide +kernel
theorem dL_cell_4 : decode cL_cell 4 = .ok (.iload_n 2, 1) := by decide +kernel
theorem dL_cell_5 : decode cL_cell 5 = .ok (.invokevirtual 7, 3) := by decide +kernel
theorem dL_cell_8 : decode cL_cell 8 = .ok (.i2l, 1) := by decide +kernel
theorem dL_cell_9 : decode cL_cell 9 = .ok (.lastore, 1) := by decide +kernel
theorem dL_cell_10 : decode cL_cell 10 = .ok (.goto 11, 3) := by decide +kernel
theorem dL_cell_13 : decode cL_cell 13 = .ok (.astore 4, 2) := by decide +kernel
theorem dL_cell_15 : decode cL_cell 15 = .ok (.iconst 1, 1) := by decide +kernel
theorem dL_cell_16 : decode cL_cell 16 = .ok (.ireturn, 1) := by decide +kernel
theorem dL_cell_17 : decode cL_cell 17 = .ok (.astore 4, 2) := by decide +kernel
theorem dL_cell_19 : decode cL_cell 19 = .ok (.iconst 2, 1) := by decide +kernel
theorem dL_cell_20 : decode cL_cell 20 = .ok (.ireturn, 1) := by decide +kernel
theorem dL_cell_21 : decode cL_cell 21 = .ok (.iconst 0, 1) := by decide +kernel
theorem dL_cell_22 : decode cL_cell 22 = .ok (.ireturn, 1) := by decide +kernel
theorem dL_law_0 : decode cL_law 0 = .ok (.new 8, 3) := by decide +kernel
theorem dL_law_3 : decode cL_law 3 = .ok (.dup, 1) := by decide +kernel
theorem dL_law_4 : decode cL_law 4 = .ok (.invokespecial 17, 3) := by decide +kernel
theorem dL_law_7 : decode cL_law 7 = .ok (.astore_n 1, 1) := by decide +kernel
theorem dL_law_8 : decode cL_law 8 = .ok (.new 18, 3) := by decide +kernel
theorem dL_law_11 : decode cL_law 11 = .ok (.dup, 1) := by decide +kernel
theorem dL_law_12 : decode cL_law 12 = .ok (.invokespecial 20, 3) := by decide +kernel
theorem dL_law_15 : decode cL_law 15 = .ok (.astore_n 2, 1) := by decide +kernel
theorem dL_law_16 : decode cL_law 16 = .ok (.iconst 1, 1) := by decide +kernel
theorem dL_law_17 : decode cL_law 17 = .ok (.newarray .long, 2) := by decide +kernel
theorem dL_law_19 : decode cL_law 19 = .ok (.astore_n 3, 1) := by decide +kernel
theorem dL_law_20 : decode cL_law 20 = .ok (.iconst 0, 1) := by decide +kernel
theorem dL_law_21 : decode cL_law 21 = .ok (.istore 4, 2) := by decide +kernel
theorem dL_law_23 : decode cL_law 23 = .ok (.iload 4, 2) := by decide +kernel
theorem dL_law_25 : decode cL_law 25 = .ok (.aload_n 0, 1) := by decide +kernel
theorem dL_law_26 : decode cL_law 26 = .ok (.arraylength, 1) := by decide +kernel
theorem dL_law_27 : decode cL_law 27 = .ok (.bipush 6, 2) := by decide +kernel
theorem dL_law_29 : decode cL_law 29 = .ok (.isub, 1) := by decide +kernel
theorem dL_law_30 : decode cL_law 30 = .ok (.if_icmp .gt 1523, 3) := by decide +kernel
theorem dL_law_33 : decode cL_law 33 = .ok (.aload_n 0, 1) := by decide +kernel
theorem dL_law_34 : decode cL_law 34 = .ok (.iload 4, 2) := by decide +kernel
theorem dL_law_36 : decode cL_law 36 = .ok (.iaload, 1) := by decide +kernel
theorem dL_law_37 : decode cL_law 37 = .ok (.bipush 63, 2) := by decide +kernel
theorem dL_law_39 : decode cL_law 39 = .ok (.iand, 1) := by decide +kernel
theorem dL_law_40 : decode cL_law 40 = .ok (.tableswitch 1507 0 44 #[196, 269, 294, 319, 356, 381, 430, 479, 504, 529, 566, 634, 671, 708, 734, 760, 786, 811, 848, 873, 886, 912, 937, 950, 988, 1013, 1055, 1080, 1093, 1118, 1143, 1180, 1205, 1218, 1243, 1268, 1281, 1307, 1332, 1369, 1394, 1443, 1456, 1469, 1482], 196) := by decide +kernel
theorem dL_law_236 : decode cL_law 236 = .ok (.aload_n 1, 1) := by decide +kernel
theorem dL_law_237 : decode cL_law 237 = .ok (.aload_n 0, 1) := by decide +kernel
theorem dL_law_238 : decode cL_law 238 = .ok (.iload 4, 2) := by decide +kernel
theorem dL_law_240 : decode cL_law 240 = .ok (.iconst 1, 1) := by decide +kernel
theorem dL_law_241 : decode cL_law 241 = .ok (.iadd, 1) := by decide +kernel
theorem dL_law_242 : decode cL_law 242 = .ok (.iaload, 1) := by decide +kernel
theorem dL_law_243 : decode cL_law 243 = .ok (.aload_n 0, 1) := by decide +kernel
theorem dL_law_244 : decode cL_law 244 = .ok (.iload 4, 2) := by decide +kernel
theorem dL_law_246 : decode cL_law 246 = .ok (.iconst 2, 1) := by decide +kernel
theorem dL_law_247 : decode cL_law 247 = .ok (.iadd, 1) := by decide +kernel
theorem dL_law_248 : decode cL_law 248 = .ok (.iaload, 1) := by decide +kernel
theorem dL_law_249 : decode cL_law 249 = .ok (.aload_n 0, 1) := by decide +kernel
theorem dL_law_250 : decode cL_law 250 = .ok (.iload 4, 2) := by decide +kernel
theorem dL_law_252 : decode cL_law 252 = .ok (.iconst 3, 1) := by decide +kernel
theorem dL_law_253 : decode cL_law 253 = .ok (.iadd, 1) := by decide +kernel
theorem dL_law_254 : decode cL_law 254 = .ok (.iaload, 1) := by decide +kernel
theorem dL_law_255 : decode cL_law 255 = .ok (.aload_n 0, 1) := by decide +kernel
theorem dL_law_256 : decode cL_law 256 = .ok (.iload 4, 2) := by decide +kernel
theorem dL_law_258 : decode cL_law 258 = .ok (.iconst 4, 1) := by decide +kernel
theorem dL_law_259 : decode cL_law 259 = .ok (.iadd, 1) := by decide +kernel
theorem dL_law_260 : decode cL_law 260 = .ok (.iaload, 1) := by decide +kernel
theorem dL_law_261 : decode cL_law 261 = .ok (.aload_n 0, 1) := by decide +kernel
theorem dL_law_262 : decode cL_law 262 = .ok (.iload 4, 2) := by decide +kernel
theorem dL_law_264 : decode cL_law 264 = .ok (.iconst 5, 1) := by decide +kernel
theorem dL_law_265 : decode cL_law 265 = .ok (.iadd, 1) := by decide +kernel
theorem dL_law_266 : decode cL_law 266 = .ok (.iaload, 1) := by decide +kernel
theorem dL_law_267 : decode cL_law 267 = .ok (.invokevirtual 21, 3) := by decide +kernel
theorem dL_law_270 : decode cL_law 270 = .ok (.aload_n 2, 1) := by decide +kernel
theorem dL_law_271 : decode cL_law 271 = .ok (.aload_n 0, 1) := by decide +kernel
theorem dL_law_272 : decode cL_law 272 = .ok (.iload 4, 2) := by decide +kernel
theorem dL_law_274 : decode cL_law 274 = .ok (.iconst 1, 1) := by decide +kernel
theorem dL_law_275 : decode cL_law 275 = .ok (.iadd, 1) := by decide +kernel
theorem dL_law_276 : decode cL_law 276 = .ok (.iaload, 1) := by decide +kernel
theorem dL_law_277 : decode cL_law 277 = .ok (.aload_n 0, 1) := by decide +kernel
theorem dL_law_278 : decode cL_law 278 = .ok (.iload 4, 2) := by decide +kernel
theorem dL_law_280 : decode cL_law 280 = .ok (.iconst 2, 1) := by decide +kernel
theorem dL_law_281 : decode cL_law 281 = .ok (.iadd, 1) := by decide +kernel
theorem dL_law_282 : decode cL_law 282 = .ok (.iaload, 1) := by decide +kernel
theorem dL_law_283 : decode cL_law 283 = .ok (.aload_n 0, 1) := by decide +kernel
theorem dL_law_284 : decode cL_law 284 = .ok (.iload 4, 2) := by decide +kernel
theorem dL_law_286 : decode cL_law 286 = .ok (.iconst 3, 1) := by decide +kernel
theorem dL_law_287 : decode cL_law 287 = .ok (.iadd, 1) := by decide +kernel
theorem dL_law_288 : decode cL_law 288 = .ok (.iaload, 1) := by decide +kernel
theorem dL_law_289 : decode cL_law 289 = .ok (.aload_n 0, 1) := by decide +kernel
theorem dL_law_290 : decode cL_law 290 = .ok (.iload 4, 2) := by decide +kernel
theorem dL_law_292 : decode cL_law 292 = .ok (.iconst 4, 1) := by decide +kernel
theorem dL_law_293 : decode cL_law 293 = .ok (.iadd, 1) := by decide +kernel
theorem dL_law_294 : decode cL_law 294 = .ok (.iaload, 1) := by decide +kernel
theorem dL_law_295 : decode cL_law 295 = .ok (.aload_n 0, 1) := by decide +kernel
theorem dL_law_296 : decode cL_law 296 = .ok (.iload 4, 2) := by decide +kernel
theorem dL_law_298 : decode cL_law 298 = .ok (.iconst 5, 1) := by decide +kernel
theorem dL_law_299 : decode cL_law 299 = .ok (.iadd, 1) := by decide +kernel
theorem dL_law_300 : decode cL_law 300 = .ok (.iaload, 1) := by decide +kernel
theorem dL_law_301 : decode cL_law 301 = .ok (.invokevirtual 25, 3) := by decide +kernel
theorem dL_law_304 : decode cL_law 304 = .ok (.if_icmp .eq 1243, 3) := by decide +kernel
theorem dL_law_307 : decode cL_law 307 = .ok (.iconst 0, 1) := by decide +kernel
theorem dL_law_308 : decode cL_law 308 = .ok (.ireturn, 1) := by decide +kernel
theorem dL_law_309 : decode cL_law 309 = .ok (.aload_n 1, 1) := by decide +kernel
theorem dL_law_310 : decode cL_law 310 = .ok (.aload_n 0, 1) := by decide +kernel
theorem dL_law_311 : decode cL_law 311 = .ok (.iload 4, 2) := by decide +kernel
theorem dL_law_313 : decode cL_law 313 = .ok (.iconst 1, 1) := by decide +kernel
theorem dL_law_314 : decode cL_law 314 = .ok (.iadd, 1) := by decide +kernel
theorem dL_law_315 : decode cL_law 315 = .ok (.iaload, 1) := by decide +kernel
theorem dL_law_316 : decode cL_law 316 = .ok (.invokevirtual 26, 3) := by decide +kernel
theorem dL_law_319 : decode cL_law 319 = .ok (.aload_n 2, 1) := by decide +kernel
theorem dL_law_320 : decode cL_law 320 = .ok (.aload_n 0, 1) := by decide +kernel
theorem dL_law_321 : decode cL_law 321 = .ok (.iload 4, 2) := by decide +kernel
theorem dL_law_323 : decode cL_law 323 = .ok (.iconst 1, 1) := by decide +kernel
theorem dL_law_324 : decode cL_law 324 = .ok (.iadd, 1) := by decide +kernel
theorem dL_law_325 : decode cL_law 325 = .ok (.iaload, 1) := by decide +kernel
theorem dL_law_326 : decode cL_law 326 = .ok (.invokevirtual 30, 3) := by decide +kernel
theorem dL_law_329 : decode cL_law 329 = .ok (.if_icmp .eq 1218, 3) := by decide +kernel
theorem dL_law_332 : decode cL_law 332 = .ok (.iconst 0, 1) := by decide +kernel
theorem dL_law_333 : decode cL_law 333 = .ok (.ireturn, 1) := by decide +kernel
theorem dL_law_334 : decode cL_law 334 = .ok (.aload_n 1, 1) := by decide +kernel
theorem dL_law_335 : decode cL_law 335 = .ok (.aload_n 0, 1) := by decide +kernel
theorem dL_law_336 : decode cL_law 336 = .ok (.iload 4, 2) := by decide +kernel
theorem dL_law_338 : decode cL_law 338 = .ok (.iconst 1, 1) := by decide +kernel
theorem dL_law_339 : decode cL_law 339 = .ok (.iadd, 1) := by decide +kernel
theorem dL_law_340 : decode cL_law 340 = .ok (.iaload, 1) := by decide +kernel
theorem dL_law_341 : decode cL_law 341 = .ok (.invokevirtual 31, 3) := by decide +kernel
theorem dL_law_344 : decode cL_law 344 = .ok (.aload_n 2, 1) := by decide +kernel
theorem dL_law_345 : decode cL_law 345 = .ok (.aload_n 0, 1) := by decide +kernel
theorem dL_law_346 : decode cL_law 346 = .ok (.iload 4, 2) := by decide +kernel
theorem dL_law_348 : decode cL_law 348 = .ok (.iconst 1, 1) := by decide +kernel
theorem dL_law_349 : decode cL_law 349 = .ok (.iadd, 1) := by decide +kernel
theorem dL_law_350 : decode cL_law 350 = .ok (.iaload, 1) := by decide +kernel
theorem dL_law_351 : decode cL_law 351 = .ok (.invokevirtual 34, 3) := by decide +kernel
theorem dL_law_354 : decode cL_law 354 = .ok (.if_icmp .eq 1193, 3) := by decide +kernel
theorem dL_law_357 : decode cL_law 357 = .ok (.iconst 0, 1) := by decide +kernel
theorem dL_law_358 : decode cL_law 358 = .ok (.ireturn, 1) := by decide +kernel
theorem dL_law_359 : decode cL_law 359 = .ok (.aload_n 1, 1) := by decide +kernel
theorem dL_law_360 : decode cL_law 360 = .ok (.aload_n 0, 1) := by decide +kernel
theorem dL_law_361 : decode cL_law 361 = .ok (.iload 4, 2) := by decide +kernel
theorem dL_law_363 : decode cL_law 363 = .ok (.iconst 1, 1) := by decide +kernel
theorem dL_law_364 : decode cL_law 364 = .ok (.iadd, 1) := by decide +kernel
theorem dL_law_365 : decode cL_law 365 = .ok (.iaload, 1) := by decide +kernel
theorem dL_law_366 : decode cL_law 366 = .ok (.aload_n 0, 1) := by decide +kernel
theorem dL_law_367 : decode cL_law 367 = .ok (.iload 4, 2) := by decide +kernel
theorem dL_law_369 : decode cL_law 369 = .ok (.iconst 2, 1) := by decide +kernel
theorem dL_law_370 : decode cL_law 370 = .ok (.iadd, 1) := by decide +kernel
theorem dL_law_371 : decode cL_law 371 = .ok (.iaload, 1) := by decide +kernel
theorem dL_law_372 : decode cL_law 372 = .ok (.invokevirtual 35, 3) := by decide +kernel
theorem dL_law_375 : decode cL_law 375 = .ok (.aload_n 2, 1) := by decide +kernel
theorem dL_law_376 : decode cL_law 376 = .ok (.aload_n 0, 1) := by decide +kernel
theorem dL_law_377 : decode cL_law 377 = .ok (.iload 4, 2) := by decide +kernel
theorem dL_law_379 : decode cL_law 379 = .ok (.iconst 1, 1) := by decide +kernel
theorem dL_law_380 : decode cL_law 380 = .ok (.iadd, 1) := by decide +kernel
theorem dL_law_381 : decode cL_law 381 = .ok (.iaload, 1) := by decide +kernel
theorem dL_law_382 : decode cL_law 382 = .ok (.aload_n 0, 1) := by decide +kernel
theorem dL_law_383 : decode cL_law 383 = .ok (.iload 4, 2) := by decide +kernel
theorem dL_law_385 : decode cL_law 385 = .ok (.iconst 2, 1) := by decide +kernel
theorem dL_law_386 : decode cL_law 386 = .ok (.iadd, 1) := by decide +kernel
theorem dL_law_387 : decode cL_law 387 = .ok (.iaload, 1) := by decide +kernel
theorem dL_law_388 : decode cL_law 388 = .ok (.invokevirtual 38, 3) := by decide +kernel
theorem dL_law_391 : decode cL_law 391 = .ok (.if_icmp .eq 1156, 3) := by decide +kernel
theorem dL_law_394 : decode cL_law 394 = .ok (.iconst 0, 1) := by decide +kernel
theorem dL_law_395 : decode cL_law 395 = .ok (.ireturn, 1) := by decide +kernel
theorem dL_law_396 : decode cL_law 396 = .ok (.aload_n 1, 1) := by decide +kernel
theorem dL_law_397 : decode cL_law 397 = .ok (.aload_n 0, 1) := by decide +kernel
theorem dL_law_398 : decode cL_law 398 = .ok (.iload 4, 2) := by decide +kernel
theorem dL_law_400 : decode cL_law 400 = .ok (.iconst 1, 1) := by decide +kernel
theorem dL_law_401 : decode cL_law 401 = .ok (.iadd, 1) := by decide +kernel
theorem dL_law_402 : decode cL_law 402 = .ok (.iaload, 1) := by decide +kernel
theorem dL_law_403 : decode cL_law 403 = .ok (.invokevirtual 39, 3) := by decide +kernel
theorem dL_law_406 : decode cL_law 406 = .ok (.aload_n 2, 1) := by decide +kernel
theorem dL_law_407 : decode cL_law 407 = .ok (.aload_n 0, 1) := by decide +kernel
theorem dL_law_408 : decode cL_law 408 = .ok (.iload 4, 2) := by decide +kernel
theorem dL_law_410 : decode cL_law 410 = .ok (.iconst 1, 1) := by decide +kernel
theorem dL_law_411 : decode cL_law 411 = .ok (.iadd, 1) := by decide +kernel
theorem dL_law_412 : decode cL_law 412 = .ok (.iaload, 1) := by decide +kernel
theorem dL_law_413 : decode cL_law 413 = .ok (.invokevirtual 42, 3) := by decide +kernel
theorem dL_law_416 : decode cL_law 416 = .ok (.if_icmp .eq 1131, 3) := by decide +kernel
theorem dL_law_419 : decode cL_law 419 = .ok (.iconst 0, 1) := by decide +kernel
theorem dL_law_420 : decode cL_law 420 = .ok (.ireturn, 1) := by decide +kernel
theorem dL_law_421 : decode cL_law 421 = .ok (.aload_n 1, 1) := by decide +kernel
theorem dL_law_422 : decode cL_law 422 = .ok (.aload_n 0, 1) := by decide +kernel
theorem dL_law_423 : decode cL_law 423 = .ok (.iload 4, 2) := by decide +kernel
theorem dL_law_425 : decode cL_law 425 = .ok (.iconst 1, 1) := by decide +kernel
theorem dL_law_426 : decode cL_law 426 = .ok (.iadd, 1) := by decide +kernel
theorem dL_law_427 : decode cL_law 427 = .ok (.iaload, 1) := by decide +kernel
theorem dL_law_428 : decode cL_law 428 = .ok (.aload_n 0, 1) := by decide +kernel
theorem dL_law_429 : decode cL_law 429 = .ok (.iload 4, 2) := by decide +kernel
theorem dL_law_431 : decode cL_law 431 = .ok (.iconst 2, 1) := by decide +kernel
theorem dL_law_432 : decode cL_law 432 = .ok (.iadd, 1) := by decide +kernel
theorem dL_law_433 : decode cL_law 433 = .ok (.iaload, 1) := by decide +kernel
theorem dL_law_434 : decode cL_law 434 = .ok (.aload_n 0, 1) := by decide +kernel
theorem dL_law_435 : decode cL_law 435 = .ok (.iload 4, 2) := by decide +kernel
theorem dL_law_437 : decode cL_law 437 = .ok (.iconst 3, 1) := by decide +kernel
theorem dL_law_438 : decode cL_law 438 = .ok (.iadd, 1) := by decide +kernel
theorem dL_law_439 : decode cL_law 439 = .ok (.iaload, 1) := by decide +kernel
theorem dL_law_440 : decode cL_law 440 = .ok (.invokevirtual 43, 3) := by decide +kernel
theorem dL_law_443 : decode cL_law 443 = .ok (.aload_n 2, 1) := by decide +kernel
theorem dL_law_444 : decode cL_law 444 = .ok (.aload_n 0, 1) := by decide +kernel
theorem dL_law_445 : decode cL_law 445 = .ok (.iload 4, 2) := by decide +kernel
theorem dL_law_447 : decode cL_law 447 = .ok (.iconst 1, 1) := by decide +kernel
theorem dL_law_448 : decode cL_law 448 = .ok (.iadd, 1) := by decide +kernel
theorem dL_law_449 : decode cL_law 449 = .ok (.iaload, 1) := by decide +kernel
theorem dL_law_450 : decode cL_law 450 = .ok (.aload_n 0, 1) := by decide +kernel
theorem dL_law_451 : decode cL_law 451 = .ok (.iload 4, 2) := by decide +kernel
theorem dL_law_453 : decode cL_law 453 = .ok (.iconst 2, 1) := by decide +kernel
theorem dL_law_454 : decode cL_law 454 = .ok (.iadd, 1) := by decide +kernel
theorem dL_law_455 : decode cL_law 455 = .ok (.iaload, 1) := by decide +kernel
theorem dL_law_456 : decode cL_law 456 = .ok (.aload_n 0, 1) := by decide +kernel
theorem dL_law_457 : decode cL_law 457 = .ok (.iload 4, 2) := by decide +kernel
theorem dL_law_459 : decode cL_law 459 = .ok (.iconst 3, 1) := by decide +kernel
theorem dL_law_460 : decode cL_law 460 = .ok (.iadd, 1) := by decide +kernel
theorem dL_law_461 : decode cL_law 461 = .ok (.iaload, 1) := by decide +kernel
theorem dL_law_462 : decode cL_law 462 = .ok (.invokevirtual 47, 3) := by decide +kernel
theorem dL_law_465 : decode cL_law 465 = .ok (.if_icmp .eq 1082, 3) := by decide +kernel
theorem dL_law_468 : decode cL_law 468 = .ok (.iconst 0, 1) := by decide +kernel
theorem dL_law_469 : decode cL_law 469 = .ok (.ireturn, 1) := by decide +kernel
theorem dL_law_470 : decode cL_law 470 = .ok (.aload_n 1, 1) := by decide +kernel
theorem dL_law_471 : decode cL_law 471 = .ok (.aload_n 0, 1) := by decide +kernel
theorem dL_law_472 : decode cL_law 472 = .ok (.iload 4, 2) := by decide +kernel
theorem dL_law_474 : decode cL_law 474 = .ok (.iconst 1, 1) := by decide +kernel
theorem dL_law_475 : decode cL_law 475 = .ok (.iadd, 1) := by decide +kernel
theorem dL_law_476 : decode cL_law 476 = .ok (.iaload, 1) := by decide +kernel
theorem dL_law_477 : decode cL_law 477 = .ok (.aload_n 0, 1) := by decide +kernel
theorem dL_law_478 : decode cL_law 478 = .ok (.iload 4, 2) := by decide +kernel
theorem dL_law_480 : decode cL_law 480 = .ok (.iconst 2, 1) := by decide +kernel
theorem dL_law_481 : decode cL_law 481 = .ok (.iadd, 1) := by decide +kernel
theorem dL_law_482 : decode cL_law 482 = .ok (.iaload, 1) := by decide +kernel
theorem dL_law_483 : decode cL_law 483 = .ok (.aload_n 0, 1) := by decide +kernel
theorem dL_law_484 : decode cL_law 484 = .ok (.iload 4, 2) := by decide +kernel
theorem dL_law_486 : decode cL_law 486 = .ok (.iconst 3, 1) := by decide +kernel
theorem dL_law_487 : decode cL_law 487 = .ok (.iadd, 1) := by decide +kernel
theorem dL_law_488 : decode cL_law 488 = .ok (.iaload, 1) := by decide +kernel
theorem dL_law_489 : decode cL_law 489 = .ok (.invokevirtual 48, 3) := by decide +kernel
theorem dL_law_492 : decode cL_law 492 = .ok (.aload_n 2, 1) := by decide +kernel
theorem dL_law_493 : decode cL_law 493 = .ok (.aload_n 0, 1) := by decide +kernel
theorem dL_law_494 : decode cL_law 494 = .ok (.iload 4, 2) := by decide +kernel
theorem dL_law_496 : decode cL_law 496 = .ok (.iconst 1, 1) := by decide +kernel
theorem dL_law_497 : decode cL_law 497 = .ok (.iadd, 1) := by decide +kernel
theorem dL_law_498 : decode cL_law 498 = .ok (.iaload, 1) := by decide +kernel
theorem dL_law_499 : decode cL_law 499 = .ok (.aload_n 0, 1) := by decide +kernel
theorem dL_law_500 : decode cL_law 500 = .ok (.iload 4, 2) := by decide +kernel
theorem dL_law_502 : decode cL_law 502 = .ok (.iconst 2, 1) := by decide +kernel
theorem dL_law_503 : decode cL_law 503 = .ok (.iadd, 1) := by decide +kernel
theorem dL_law_504 : decode cL_law 504 = .ok (.iaload, 1) := by decide +kernel
theorem dL_law_505 : decode cL_law 505 = .ok (.aload_n 0, 1) := by decide +kernel
theorem dL_law_506 : decode cL_law 506 = .ok (.iload 4, 2) := by decide +kernel
theorem dL_law_508 : decode cL_law 508 = .ok (.iconst 3, 1) := by decide +kernel
theorem dL_law_509 : decode cL_law 509 = .ok (.iadd, 1) := by decide +kernel
theorem dL_law_510 : decode cL_law 510 = .ok (.iaload, 1) := by decide +kernel
theorem dL_law_511 : decode cL_law 511 = .ok (.invokevirtual 51, 3) := by decide +kernel
theorem dL_law_514 : decode cL_law 514 = .ok (.if_icmp .eq 1033, 3) := by decide +kernel
theorem dL_law_517 : decode cL_law 517 = .ok (.iconst 0, 1) := by decide +kernel
theorem dL_law_518 : decode cL_law 518 = .ok (.ireturn, 1) := by decide +kernel
theorem dL_law_519 : decode cL_law 519 = .ok (.aload_n 1, 1) := by decide +kernel
theorem dL_law_520 : decode cL_law 520 = .ok (.aload_n 0, 1) := by decide +kernel
theorem dL_law_521 : decode cL_law 521 = .ok (.iload 4, 2) := by decide +kernel
theorem dL_law_523 : decode cL_law 523 = .ok (.iconst 1, 1) := by decide +kernel
theorem dL_law_524 : decode cL_law 524 = .ok (.iadd, 1) := by decide +kernel
theorem dL_law_525 : decode cL_law 525 = .ok (.iaload, 1) := by decide +kernel
theorem dL_law_526 : decode cL_law 526 = .ok (.invokevirtual 52, 3) := by decide +kernel
theorem dL_law_529 : decode cL_law 529 = .ok (.aload_n 2, 1) := by decide +kernel
theorem dL_law_530 : decode cL_law 530 = .ok (.aload_n 0, 1) := by decide +kernel
theorem dL_law_531 : decode cL_law 531 = .ok (.iload 4, 2) := by decide +kernel
theorem dL_law_533 : decode cL_law 533 = .ok (.iconst 1, 1) := by decide +kernel
theorem dL_law_534 : decode cL_law 534 = .ok (.iadd, 1) := by decide +kernel
theorem dL_law_535 : decode cL_law 535 = .ok (.iaload, 1) := by decide +kernel
theorem dL_law_536 : decode cL_law 536 = .ok (.invokevirtual 55, 3) := by decide +kernel
theorem dL_law_539 : decode cL_law 539 = .ok (.if_icmp .eq 1008, 3) := by decide +kernel
theorem dL_law_542 : decode cL_law 542 = .ok (.iconst 0, 1) := by decide +kernel
theorem dL_law_543 : decode cL_law 543 = .ok (.ireturn, 1) := by decide +kernel
theorem dL_law_544 : decode cL_law 544 = .ok (.aload_n 1, 1) := by decide +kernel
theorem dL_law_545 : decode cL_law 545 = .ok (.aload_n 0, 1) := by decide +kernel
theorem dL_law_546 : decode cL_law 546 = .ok (.iload 4, 2) := by decide +kernel
theorem dL_law_548 : decode cL_law 548 = .ok (.iconst 1, 1) := by decide +kernel
theorem dL_law_549 : decode cL_law 549 = .ok (.iadd, 1) := by decide +kernel
theorem dL_law_550 : decode cL_law 550 = .ok (.iaload, 1) := by decide +kernel
theorem dL_law_551 : decode cL_law 551 = .ok (.invokevirtual 56, 3) := by decide +kernel
theorem dL_law_554 : decode cL_law 554 = .ok (.aload_n 2, 1) := by decide +kernel
theorem dL_law_555 : decode cL_law 555 = .ok (.aload_n 0, 1) := by decide +kernel
theorem dL_law_556 : decode cL_law 556 = .ok (.iload 4, 2) := by decide +kernel
theorem dL_law_558 : decode cL_law 558 = .ok (.iconst 1, 1) := by decide +kernel
theorem dL_law_559 : decode cL_law 559 = .ok (.iadd, 1) := by decide +kernel
theorem dL_law_560 : decode cL_law 560 = .ok (.iaload, 1) := by decide +kernel
theorem dL_law_561 : decode cL_law 561 = .ok (.invokevirtual 59, 3) := by decide +kernel
theorem dL_law_564 : decode cL_law 564 = .ok (.if_icmp .eq 983, 3) := by decide +kernel
theorem dL_law_567 : decode cL_law 567 = .ok (.iconst 0, 1) := by decide +kernel
theorem dL_law_568 : decode cL_law 568 = .ok (.ireturn, 1) := by decide +kernel
theorem dL_law_569 : decode cL_law 569 = .ok (.aload_n 1, 1) := by decide +kernel
theorem dL_law_570 : decode cL_law 570 = .ok (.aload_n 0, 1) := by decide +kernel
theorem dL_law_571 : decode cL_law 571 = .ok (.iload 4, 2) := by decide +kernel
theorem dL_law_573 : decode cL_law 573 = .ok (.iconst 1, 1) := by decide +kernel
theorem dL_law_574 : decode cL_law 574 = .ok (.iadd, 1) := by decide +kernel
theorem dL_law_575 : decode cL_law 575 = .ok (.iaload, 1) := by decide +kernel
theorem dL_law_576 : decode cL_law 576 = .ok (.aload_n 0, 1) := by decide +kernel
theorem dL_law_577 : decode cL_law 577 = .ok (.iload 4, 2) := by decide +kernel
theorem dL_law_579 : decode cL_law 579 = .ok (.iconst 2, 1) := by decide +kernel
theorem dL_law_580 : decode cL_law 580 = .ok (.iadd, 1) := by decide +kernel
theorem dL_law_581 : decode cL_law 581 = .ok (.iaload, 1) := by decide +kernel
theorem dL_law_582 : decode cL_law 582 = .ok (.invokevirtual 60, 3) := by decide +kernel
theorem dL_law_585 : decode cL_law 585 = .ok (.aload_n 2, 1) := by decide +kernel
theorem dL_law_586 : decode cL_law 586 = .ok (.aload_n 0, 1) := by decide +kernel
theorem dL_law_587 : decode cL_law 587 = .ok (.iload 4, 2) := by decide +kernel
theorem dL_law_589 : decode cL_law 589 = .ok (.iconst 1, 1) := by decide +kernel
theorem dL_law_590 : decode cL_law 590 = .ok (.iadd, 1) := by decide +kernel
theorem dL_law_591 : decode cL_law 591 = .ok (.iaload, 1) := by decide +kernel
theorem dL_law_592 : decode cL_law 592 = .ok (.aload_n 0, 1) := by decide +kernel
theorem dL_law_593 : decode cL_law 593 = .ok (.iload 4, 2) := by decide +kernel
theorem dL_law_595 : decode cL_law 595 = .ok (.iconst 2, 1) := by decide +kernel
theorem dL_law_596 : decode cL_law 596 = .ok (.iadd, 1) := by decide +kernel
theorem dL_law_597 : decode cL_law 597 = .ok (.iaload, 1) := by decide +kernel
theorem dL_law_598 : decode cL_law 598 = .ok (.invokevirtual 64, 3) := by decide +kernel
theorem dL_law_601 : decode cL_law 601 = .ok (.if_icmp .eq 946, 3) := by decide +kernel
theorem dL_law_604 : decode cL_law 604 = .ok (.iconst 0, 1) := by decide +kernel
theorem dL_law_605 : decode cL_law 605 = .ok (.ireturn, 1) := by decide +kernel
theorem dL_law_606 : decode cL_law 606 = .ok (.aload_n 1, 1) := by decide +kernel
theorem dL_law_607 : decode cL_law 607 = .ok (.aload_n 0, 1) := by decide +kernel
theorem dL_law_608 : decode cL_law 608 = .ok (.iload 4, 2) := by decide +kernel
theorem dL_law_610 : decode cL_law 610 = .ok (.iconst 1, 1) := by decide +kernel
theorem dL_law_611 : decode cL_law 611 = .ok (.iadd, 1) := by decide +kernel
theorem dL_law_612 : decode cL_law 612 = .ok (.iaload, 1) := by decide +kernel
theorem dL_law_613 : decode cL_law 613 = .ok (.aload_n 0, 1) := by decide +kernel
theorem dL_law_614 : decode cL_law 614 = .ok (.iload 4, 2) := by decide +kernel
theorem dL_law_616 : decode cL_law 616 = .ok (.iconst 2, 1) := by decide +kernel
theorem dL_law_617 : decode cL_law 617 = .ok (.iadd, 1) := by decide +kernel
theorem dL_law_618 : decode cL_law 618 = .ok (.iaload, 1) := by decide +kernel
theorem dL_law_619 : decode cL_law 619 = .ok (.aload_n 3, 1) := by decide +kernel
theorem dL_law_620 : decode cL_law 620 = .ok (.invokestatic 65, 3) := by decide +kernel
theorem dL_law_623 : decode cL_law 623 = .ok (.istore 5, 2) := by decide +kernel
theorem dL_law_625 : decode cL_law 625 = .ok (.aload_n 2, 1) := by decide +kernel
theorem dL_law_626 : decode cL_law 626 = .ok (.aload_n 0, 1) := by decide +kernel
theorem dL_law_627 : decode cL_law 627 = .ok (.iload 4, 2) := by decide +kernel
theorem dL_law_629 : decode cL_law 629 = .ok (.iconst 1, 1) := by decide +kernel
theorem dL_law_630 : decode cL_law 630 = .ok (.iadd, 1) := by decide +kernel
theorem dL_law_631 : decode cL_law 631 = .ok (.iaload, 1) := by decide +kernel
theorem dL_law_632 : decode cL_law 632 = .ok (.aload_n 0, 1) := by decide +kernel
theorem dL_law_633 : decode cL_law 633 = .ok (.iload 4, 2) := by decide +kernel
theorem dL_law_635 : decode cL_law 635 = .ok (.iconst 2, 1) := by decide +kernel
theorem dL_law_636 : decode cL_law 636 = .ok (.iadd, 1) := by decide +kernel
theorem dL_law_637 : decode cL_law 637 = .ok (.iaload, 1) := by decide +kernel
theorem dL_law_638 : decode cL_law 638 = .ok (.invokevirtual 70, 3) := by decide +kernel
theorem dL_law_641 : decode cL_law 641 = .ok (.istore 6, 2) := by decide +kernel
theorem dL_law_643 : decode cL_law 643 = .ok (.aload_n 2, 1) := by decide +kernel
theorem dL_law_644 : decode cL_law 644 = .ok (.invokevirtual 71, 3) := by decide +kernel
theorem dL_law_647 : decode cL_law 647 = .ok (.iload 5, 2) := by decide +kernel
theorem dL_law_649 : decode cL_law 649 = .ok (.if_icmp .eq 5, 3) := by decide +kernel
theorem dL_law_652 : decode cL_law 652 = .ok (.iconst 0, 1) := by decide +kernel
theorem dL_law_653 : decode cL_law 653 = .ok (.ireturn, 1) := by decide +kernel
theorem dL_law_654 : decode cL_law 654 = .ok (.iload 5, 2) := by decide +kernel
theorem dL_law_656 : decode cL_law 656 = .ok (.ifCond .ne 15, 3) := by decide +kernel
theorem dL_law_659 : decode cL_law 659 = .ok (.aload_n 3, 1) := by decide +kernel
theorem dL_law_660 : decode cL_law 660 = .ok (.iconst 0, 1) := by decide +kernel
theorem dL_law_661 : decode cL_law 661 = .ok (.laload, 1) := by decide +kernel
theorem dL_law_662 : decode cL_law 662 = .ok (.iload 6, 2) := by decide +kernel
theorem dL_law_664 : decode cL_law 664 = .ok (.i2l, 1) := by decide +kernel
theorem dL_law_665 : decode cL_law 665 = .ok (.lcmp, 1) := by decide +kernel
theorem dL_law_666 : decode cL_law 666 = .ok (.ifCond .eq 5, 3) := by decide +kernel
theorem dL_law_669 : decode cL_law 669 = .ok (.iconst 0, 1) := by decide +kernel
theorem dL_law_670 : decode cL_law 670 = .ok (.ireturn, 1) := by decide +kernel
theorem dL_law_671 : decode cL_law 671 = .ok (.goto 876, 3) := by decide +kernel
theorem dL_law_674 : decode cL_law 674 = .ok (.aload_n 1, 1) := by decide +kernel
theorem dL_law_675 : decode cL_law 675 = .ok (.aload_n 0, 1) := by decide +kernel
theorem dL_law_676 : decode cL_law 676 = .ok (.iload 4, 2) := by decide +kernel
theorem dL_law_678 : decode cL_law 678 = .ok (.iconst 1, 1) := by decide +kernel
theorem dL_law_679 : decode cL_law 679 = .ok (.iadd, 1) := by decide +kernel
theorem dL_law_680 : decode cL_law 680 = .ok (.iaload, 1) := by decide +kernel
theorem dL_law_681 : decode cL_law 681 = .ok (.aload_n 0, 1) := by decide +kernel
theorem dL_law_682 : decode cL_law 682 = .ok (.iload 4, 2) := by decide +kernel
theorem dL_law_684 : decode cL_law 684 = .ok (.iconst 2, 1) := by decide +kernel
theorem dL_law_685 : decode cL_law 685 = .ok (.iadd, 1) := by decide +kernel
theorem dL_law_686 : decode cL_law 686 = .ok (.iaload, 1) := by decide +kernel
theorem dL_law_687 : decode cL_law 687 = .ok (.invokevirtual 75, 3) := by decide +kernel
theorem dL_law_690 : decode cL_law 690 = .ok (.aload_n 2, 1) := by decide +kernel
theorem dL_law_691 : decode cL_law 691 = .ok (.aload_n 0, 1) := by decide +kernel
theorem dL_law_692 : decode cL_law 692 = .ok (.iload 4, 2) := by decide +kernel
theorem dL_law_694 : decode cL_law 694 = .ok (.iconst 1, 1) := by decide +kernel
theorem dL_law_695 : decode cL_law 695 = .ok (.iadd, 1) := by decide +kernel
theorem dL_law_696 : decode cL_law 696 = .ok (.iaload, 1) := by decide +kernel
theorem dL_law_697 : decode cL_law 697 = .ok (.aload_n 0, 1) := by decide +kernel
theorem dL_law_698 : decode cL_law 698 = .ok (.iload 4, 2) := by decide +kernel
theorem dL_law_700 : decode cL_law 700 = .ok (.iconst 2, 1) := by decide +kernel
theorem dL_law_701 : decode cL_law 701 = .ok (.iadd, 1) := by decide +kernel
theorem dL_law_702 : decode cL_law 702 = .ok (.iaload, 1) := by decide +kernel
theorem dL_law_703 : decode cL_law 703 = .ok (.invokevirtual 78, 3) := by decide +kernel
theorem dL_law_706 : decode cL_law 706 = .ok (.if_icmp .eq 841, 3) := by decide +kernel
theorem dL_law_709 : decode cL_law 709 = .ok (.iconst 0, 1) := by decide +kernel
theorem dL_law_710 : decode cL_law 710 = .ok (.ireturn, 1) := by decide +kernel
theorem dL_law_711 : decode cL_law 711 = .ok (.aload_n 1, 1) := by decide +kernel
theorem dL_law_712 : decode cL_law 712 = .ok (.aload_n 0, 1) := by decide +kernel
theorem dL_law_713 : decode cL_law 713 = .ok (.iload 4, 2) := by decide +kernel
theorem dL_law_715 : decode cL_law 715 = .ok (.iconst 1, 1) := by decide +kernel
theorem dL_law_716 : decode cL_law 716 = .ok (.iadd, 1) := by decide +kernel
theorem dL_law_717 : decode cL_law 717 = .ok (.iaload, 1) := by decide +kernel
theorem dL_law_718 : decode cL_law 718 = .ok (.aload_n 0, 1) := by decide +kernel
theorem dL_law_719 : decode cL_law 719 = .ok (.iload 4, 2) := by decide +kernel
theorem dL_law_721 : decode cL_law 721 = .ok (.iconst 2, 1) := by decide +kernel
theorem dL_law_722 : decode cL_law 722 = .ok (.iadd, 1) := by decide +kernel
theorem dL_law_723 : decode cL_law 723 = .ok (.iaload, 1) := by decide +kernel
theorem dL_law_724 : decode cL_law 724 = .ok (.invokevirtual 79, 3) := by decide +kernel
theorem dL_law_727 : decode cL_law 727 = .ok (.aload_n 2, 1) := by decide +kernel
theorem dL_law_728 : decode cL_law 728 = .ok (.aload_n 0, 1) := by decide +kernel
theorem dL_law_729 : decode cL_law 729 = .ok (.iload 4, 2) := by decide +kernel
theorem dL_law_731 : decode cL_law 731 = .ok (.iconst 1, 1) := by decide +kernel
theorem dL_law_732 : decode cL_law 732 = .ok (.iadd, 1) := by decide +kernel
theorem dL_law_733 : decode cL_law 733 = .ok (.iaload, 1) := by decide +kernel
theorem dL_law_734 : decode cL_law 734 = .ok (.aload_n 0, 1) := by decide +kernel
theorem dL_law_735 : decode cL_law 735 = .ok (.iload 4, 2) := by decide +kernel
theorem dL_law_737 : decode cL_law 737 = .ok (.iconst 2, 1) := by decide +kernel
theorem dL_law_738 : decode cL_law 738 = .ok (.iadd, 1) := by decide +kernel
theorem dL_law_739 : decode cL_law 739 = .ok (.iaload, 1) := by decide +kernel
theorem dL_law_740 : decode cL_law 740 = .ok (.invokevirtual 82, 3) := by decide +kernel
theorem dL_law_743 : decode cL_law 743 = .ok (.if_icmp .eq 804, 3) := by decide +kernel
theorem dL_law_746 : decode cL_law 746 = .ok (.iconst 0, 1) := by decide +kernel
theorem dL_law_747 : decode cL_law 747 = .ok (.ireturn, 1) := by decide +kernel
theorem dL_law_748 : decode cL_law 748 = .ok (.aload_n 1, 1) := by decide +kernel
theorem dL_law_749 : decode cL_law 749 = .ok (.aload_n 0, 1) := by decide +kernel
theorem dL_law_750 : decode cL_law 750 = .ok (.iload 4, 2) := by decide +kernel
theorem dL_law_752 : decode cL_law 752 = .ok (.iconst 1, 1) := by decide +kernel
theorem dL_law_753 : decode cL_law 753 = .ok (.iadd, 1) := by decide +kernel
theorem dL_law_754 : decode cL_law 754 = .ok (.iaload, 1) := by decide +kernel
theorem dL_law_755 : decode cL_law 755 = .ok (.invokevirtual 83, 3) := by decide +kernel
theorem dL_law_758 : decode cL_law 758 = .ok (.aload_n 2, 1) := by decide +kernel
theorem dL_law_759 : decode cL_law 759 = .ok (.aload_n 0, 1) := by decide +kernel
theorem dL_law_760 : decode cL_law 760 = .ok (.iload 4, 2) := by decide +kernel
theorem dL_law_762 : decode cL_law 762 = .ok (.iconst 1, 1) := by decide +kernel
theorem dL_law_763 : decode cL_law 763 = .ok (.iadd, 1) := by decide +kernel
theorem dL_law_764 : decode cL_law 764 = .ok (.iaload, 1) := by decide +kernel
theorem dL_law_765 : decode cL_law 765 = .ok (.invokevirtual 87, 3) := by decide +kernel
theorem dL_law_768 : decode cL_law 768 = .ok (.lcmp, 1) := by decide +kernel
theorem dL_law_769 : decode cL_law 769 = .ok (.ifCond .eq 778, 3) := by decide +kernel
theorem dL_law_772 : decode cL_law 772 = .ok (.iconst 0, 1) := by decide +kernel
theorem dL_law_773 : decode cL_law 773 = .ok (.ireturn, 1) := by decide +kernel
theorem dL_law_774 : decode cL_law 774 = .ok (.aload_n 1, 1) := by decide +kernel
theorem dL_law_775 : decode cL_law 775 = .ok (.aload_n 0, 1) := by decide +kernel
theorem dL_law_776 : decode cL_law 776 = .ok (.iload 4, 2) := by decide +kernel
theorem dL_law_778 : decode cL_law 778 = .ok (.iconst 1, 1) := by decide +kernel
theorem dL_law_779 : decode cL_law 779 = .ok (.iadd, 1) := by decide +kernel
theorem dL_law_780 : decode cL_law 780 = .ok (.iaload, 1) := by decide +kernel
theorem dL_law_781 : decode cL_law 781 = .ok (.invokevirtual 88, 3) := by decide +kernel
theorem dL_law_784 : decode cL_law 784 = .ok (.aload_n 2, 1) := by decide +kernel
theorem dL_law_785 : decode cL_law 785 = .ok (.aload_n 0, 1) := by decide +kernel
theorem dL_law_786 : decode cL_law 786 = .ok (.iload 4, 2) := by decide +kernel
theorem dL_law_788 : decode cL_law 788 = .ok (.iconst 1, 1) := by decide +kernel
theorem dL_law_789 : decode cL_law 789 = .ok (.iadd, 1) := by decide +kernel
theorem dL_law_790 : decode cL_law 790 = .ok (.iaload, 1) := by decide +kernel
theorem dL_law_791 : decode cL_law 791 = .ok (.invokevirtual 91, 3) := by decide +kernel
theorem dL_law_794 : decode cL_law 794 = .ok (.lcmp, 1) := by decide +kernel
theorem dL_law_795 : decode cL_law 795 = .ok (.ifCond .eq 752, 3) := by decide +kernel
theorem dL_law_798 : decode cL_law 798 = .ok (.iconst 0, 1) := by decide +kernel
theorem dL_law_799 : decode cL_law 799 = .ok (.ireturn, 1) := by decide +kernel
theorem dL_law_800 : decode cL_law 800 = .ok (.aload_n 1, 1) := by decide +kernel
theorem dL_law_801 : decode cL_law 801 = .ok (.aload_n 0, 1) := by decide +kernel
theorem dL_law_802 : decode cL_law 802 = .ok (.iload 4, 2) := by decide +kernel
theorem dL_law_804 : decode cL_law 804 = .ok (.iconst 1, 1) := by decide +kernel
theorem dL_law_805 : decode cL_law 805 = .ok (.iadd, 1) := by decide +kernel
theorem dL_law_806 : decode cL_law 806 = .ok (.iaload, 1) := by decide +kernel
theorem dL_law_807 : decode cL_law 807 = .ok (.invokevirtual 92, 3) := by decide +kernel
theorem dL_law_810 : decode cL_law 810 = .ok (.aload_n 2, 1) := by decide +kernel
theorem dL_law_811 : decode cL_law 811 = .ok (.aload_n 0, 1) := by decide +kernel
theorem dL_law_812 : decode cL_law 812 = .ok (.iload 4, 2) := by decide +kernel
theorem dL_law_814 : decode cL_law 814 = .ok (.iconst 1, 1) := by decide +kernel
theorem dL_law_815 : decode cL_law 815 = .ok (.iadd, 1) := by decide +kernel
theorem dL_law_816 : decode cL_law 816 = .ok (.iaload, 1) := by decide +kernel
theorem dL_law_817 : decode cL_law 817 = .ok (.invokevirtual 95, 3) := by decide +kernel
theorem dL_law_820 : decode cL_law 820 = .ok (.lcmp, 1) := by decide +kernel
theorem dL_law_821 : decode cL_law 821 = .ok (.ifCond .eq 726, 3) := by decide +kernel
theorem dL_law_824 : decode cL_law 824 = .ok (.iconst 0, 1) := by decide +kernel
theorem dL_law_825 : decode cL_law 825 = .ok (.ireturn, 1) := by decide +kernel
theorem dL_law_826 : decode cL_law 826 = .ok (.aload_n 1, 1) := by decide +kernel
theorem dL_law_827 : decode cL_law 827 = .ok (.aload_n 0, 1) := by decide +kernel
theorem dL_law_828 : decode cL_law 828 = .ok (.iload 4, 2) := by decide +kernel
theorem dL_law_830 : decode cL_law 830 = .ok (.iconst 1, 1) := by decide +kernel
theorem dL_law_831 : decode cL_law 831 = .ok (.iadd, 1) := by decide +kernel
theorem dL_law_832 : decode cL_law 832 = .ok (.iaload, 1) := by decide +kernel
theorem dL_law_833 : decode cL_law 833 = .ok (.invokevirtual 96, 3) := by decide +kernel
theorem dL_law_836 : decode cL_law 836 = .ok (.aload_n 2, 1) := by decide +kernel
theorem dL_law_837 : decode cL_law 837 = .ok (.aload_n 0, 1) := by decide +kernel
theorem dL_law_838 : decode cL_law 838 = .ok (.iload 4, 2) := by decide +kernel
theorem dL_law_840 : decode cL_law 840 = .ok (.iconst 1, 1) := by decide +kernel
theorem dL_law_841 : decode cL_law 841 = .ok (.iadd, 1) := by decide +kernel
theorem dL_law_842 : decode cL_law 842 = .ok (.iaload, 1) := by decide +kernel
theorem dL_law_843 : decode cL_law 843 = .ok (.invokevirtual 99, 3) := by decide +kernel
theorem dL_law_846 : decode cL_law 846 = .ok (.if_icmp .eq 701, 3) := by decide +kernel
theorem dL_law_849 : decode cL_law 849 = .ok (.iconst 0, 1) := by decide +kernel
theorem dL_law_850 : decode cL_law 850 = .ok (.ireturn, 1) := by decide +kernel
theorem dL_law_851 : decode cL_law 851 = .ok (.aload_n 1, 1) := by decide +kernel
theorem dL_law_852 : decode cL_law 852 = .ok (.aload_n 0, 1) := by decide +kernel
theorem dL_law_853 : decode cL_law 853 = .ok (.iload 4, 2) := by decide +kernel
theorem dL_law_855 : decode cL_law 855 = .ok (.iconst 1, 1) := by decide +kernel
theorem dL_law_856 : decode cL_law 856 = .ok (.iadd, 1) := by decide +kernel
theorem dL_law_857 : decode cL_law 857 = .ok (.iaload, 1) := by decide +kernel
theorem dL_law_858 : decode cL_law 858 = .ok (.aload_n 0, 1) := by decide +kernel
theorem dL_law_859 : decode cL_law 859 = .ok (.iload 4, 2) := by decide +kernel
theorem dL_law_861 : decode cL_law 861 = .ok (.iconst 2, 1) := by decide +kernel
theorem dL_law_862 : decode cL_law 862 = .ok (.iadd, 1) := by decide +kernel
theorem dL_law_863 : decode cL_law 863 = .ok (.iaload, 1) := by decide +kernel
theorem dL_law_864 : decode cL_law 864 = .ok (.invokevirtual 100, 3) := by decide +kernel
theorem dL_law_867 : decode cL_law 867 = .ok (.aload_n 2, 1) := by decide +kernel
theorem dL_law_868 : decode cL_law 868 = .ok (.aload_n 0, 1) := by decide +kernel
theorem dL_law_869 : decode cL_law 869 = .ok (.iload 4, 2) := by decide +kernel
theorem dL_law_871 : decode cL_law 871 = .ok (.iconst 1, 1) := by decide +kernel
theorem dL_law_872 : decode cL_law 872 = .ok (.iadd, 1) := by decide +kernel
theorem dL_law_873 : decode cL_law 873 = .ok (.iaload, 1) := by decide +kernel
theorem dL_law_874 : decode cL_law 874 = .ok (.aload_n 0, 1) := by decide +kernel
theorem dL_law_875 : decode cL_law 875 = .ok (.iload 4, 2) := by decide +kernel
theorem dL_law_877 : decode cL_law 877 = .ok (.iconst 2, 1) := by decide +kernel
theorem dL_law_878 : decode cL_law 878 = .ok (.iadd, 1) := by decide +kernel
theorem dL_law_879 : decode cL_law 879 = .ok (.iaload, 1) := by decide +kernel
theorem dL_law_880 : decode cL_law 880 = .ok (.invokevirtual 103, 3) := by decide +kernel
theorem dL_law_883 : decode cL_law 883 = .ok (.if_icmp .eq 664, 3) := by decide +kernel
theorem dL_law_886 : decode cL_law 886 = .ok (.iconst 0, 1) := by decide +kernel
theorem dL_law_887 : decode cL_law 887 = .ok (.ireturn, 1) := by decide +kernel
theorem dL_law_888 : decode cL_law 888 = .ok (.aload_n 1, 1) := by decide +kernel
theorem dL_law_889 : decode cL_law 889 = .ok (.aload_n 0, 1) := by decide +kernel
theorem dL_law_890 : decode cL_law 890 = .ok (.iload 4, 2) := by decide +kernel
theorem dL_law_892 : decode cL_law 892 = .ok (.iconst 1, 1) := by decide +kernel
theorem dL_law_893 : decode cL_law 893 = .ok (.iadd, 1) := by decide +kernel
theorem dL_law_894 : decode cL_law 894 = .ok (.iaload, 1) := by decide +kernel
theorem dL_law_895 : decode cL_law 895 = .ok (.invokevirtual 104, 3) := by decide +kernel
theorem dL_law_898 : decode cL_law 898 = .ok (.aload_n 2, 1) := by decide +kernel
theorem dL_law_899 : decode cL_law 899 = .ok (.aload_n 0, 1) := by decide +kernel
theorem dL_law_900 : decode cL_law 900 = .ok (.iload 4, 2) := by decide +kernel
theorem dL_law_902 : decode cL_law 902 = .ok (.iconst 1, 1) := by decide +kernel
theorem dL_law_903 : decode cL_law 903 = .ok (.iadd, 1) := by decide +kernel
theorem dL_law_904 : decode cL_law 904 = .ok (.iaload, 1) := by decide +kernel
theorem dL_law_905 : decode cL_law 905 = .ok (.invokevirtual 107, 3) := by decide +kernel
theorem dL_law_908 : decode cL_law 908 = .ok (.if_icmp .eq 639, 3) := by decide +kernel
theorem dL_law_911 : decode cL_law 911 = .ok (.iconst 0, 1) := by decide +kernel
theorem dL_law_912 : decode cL_law 912 = .ok (.ireturn, 1) := by decide +kernel
theorem dL_law_913 : decode cL_law 913 = .ok (.aload_n 1, 1) := by decide +kernel
theorem dL_law_914 : decode cL_law 914 = .ok (.invokevirtual 108, 3) := by decide +kernel
theorem dL_law_917 : decode cL_law 917 = .ok (.aload_n 2, 1) := by decide +kernel
theorem dL_law_918 : decode cL_law 918 = .ok (.invokevirtual 111, 3) := by decide +kernel
theorem dL_law_921 : decode cL_law 921 = .ok (.if_icmp .eq 626, 3) := by decide +kernel
theorem dL_law_924 : decode cL_law 924 = .ok (.iconst 0, 1) := by decide +kernel
theorem dL_law_925 : decode cL_law 925 = .ok (.ireturn, 1) := by decide +kernel
theorem dL_law_926 : decode cL_law 926 = .ok (.aload_n 1, 1) := by decide +kernel
theorem dL_law_927 : decode cL_law 927 = .ok (.aload_n 0, 1) := by decide +kernel
theorem dL_law_928 : decode cL_law 928 = .ok (.iload 4, 2) := by decide +kernel
theorem dL_law_930 : decode cL_law 930 = .ok (.iconst 1, 1) := by decide +kernel
theorem dL_law_931 : decode cL_law 931 = .ok (.iadd, 1) := by decide +kernel
theorem dL_law_932 : decode cL_law 932 = .ok (.iaload, 1) := by decide +kernel
theorem dL_law_933 : decode cL_law 933 = .ok (.invokevirtual 112, 3) := by decide +kernel
theorem dL_law_936 : decode cL_law 936 = .ok (.aload_n 2, 1) := by decide +kernel
theorem dL_law_937 : decode cL_law 937 = .ok (.aload_n 0, 1) := by decide +kernel
theorem dL_law_938 : decode cL_law 938 = .ok (.iload 4, 2) := by decide +kernel
theorem dL_law_940 : decode cL_law 940 = .ok (.iconst 1, 1) := by decide +kernel
theorem dL_law_941 : decode cL_law 941 = .ok (.iadd, 1) := by decide +kernel
theorem dL_law_942 : decode cL_law 942 = .ok (.iaload, 1) := by decide +kernel
theorem dL_law_943 : decode cL_law 943 = .ok (.invokevirtual 115, 3) := by decide +kernel
theorem dL_law_946 : decode cL_law 946 = .ok (.lcmp, 1) := by decide +kernel
theorem dL_law_947 : decode cL_law 947 = .ok (.ifCond .eq 600, 3) := by decide +kernel
theorem dL_law_950 : decode cL_law 950 = .ok (.iconst 0, 1) := by decide +kernel
theorem dL_law_951 : decode cL_law 951 = .ok (.ireturn, 1) := by decide +kernel
theorem dL_law_952 : decode cL_law 952 = .ok (.aload_n 1, 1) := by decide +kernel
theorem dL_law_953 : decode cL_law 953 = .ok (.aload_n 0, 1) := by decide +kernel
theorem dL_law_954 : decode cL_law 954 = .ok (.iload 4, 2) := by decide +kernel
theorem dL_law_956 : decode cL_law 956 = .ok (.iconst 1, 1) := by decide +kernel
theorem dL_law_957 : decode cL_law 957 = .ok (.iadd, 1) := by decide +kernel
theorem dL_law_958 : decode cL_law 958 = .ok (.iaload, 1) := by decide +kernel
theorem dL_law_959 : decode cL_law 959 = .ok (.invokevirtual 116, 3) := by decide +kernel
theorem dL_law_962 : decode cL_law 962 = .ok (.aload_n 2, 1) := by decide +kernel
theorem dL_law_963 : decode cL_law 963 = .ok (.aload_n 0, 1) := by decide +kernel
theorem dL_law_964 : decode cL_law 964 = .ok (.iload 4, 2) := by decide +kernel
theorem dL_law_966 : decode cL_law 966 = .ok (.iconst 1, 1) := by decide +kernel
theorem dL_law_967 : decode cL_law 967 = .ok (.iadd, 1) := by decide +kernel
theorem dL_law_968 : decode cL_law 968 = .ok (.iaload, 1) := by decide +kernel
theorem dL_law_969 : decode cL_law 969 = .ok (.invokevirtual 119, 3) := by decide +kernel
theorem dL_law_972 : decode cL_law 972 = .ok (.if_icmp .eq 575, 3) := by decide +kernel
theorem dL_law_975 : decode cL_law 975 = .ok (.iconst 0, 1) := by decide +kernel
theorem dL_law_976 : decode cL_law 976 = .ok (.ireturn, 1) := by decide +kernel
theorem dL_law_977 : decode cL_law 977 = .ok (.aload_n 1, 1) := by decide +kernel
theorem dL_law_978 : decode cL_law 978 = .ok (.invokevirtual 120, 3) := by decide +kernel
theorem dL_law_981 : decode cL_law 981 = .ok (.aload_n 2, 1) := by decide +kernel
theorem dL_law_982 : decode cL_law 982 = .ok (.invokevirtual 123, 3) := by decide +kernel
theorem dL_law_985 : decode cL_law 985 = .ok (.if_icmp .eq 562, 3) := by decide +kernel
theorem dL_law_988 : decode cL_law 988 = .ok (.iconst 0, 1) := by decide +kernel
theorem dL_law_989 : decode cL_law 989 = .ok (.ireturn, 1) := by decide +kernel
theorem dL_law_990 : decode cL_law 990 = .ok (.aload_n 1, 1) := by decide +kernel
theorem dL_law_991 : decode cL_law 991 = .ok (.aload_n 0, 1) := by decide +kernel
theorem dL_law_992 : decode cL_law 992 = .ok (.iload 4, 2) := by decide +kernel
theorem dL_law_994 : decode cL_law 994 = .ok (.iconst 1, 1) := by decide +kernel
theorem dL_law_995 : decode cL_law 995 = .ok (.iadd, 1) := by decide +kernel
theorem dL_law_996 : decode cL_law 996 = .ok (.iaload, 1) := by decide +kernel
theorem dL_law_997 : decode cL_law 997 = .ok (.aload_n 0, 1) := by decide +kernel
theorem dL_law_998 : decode cL_law 998 = .ok (.iload 4, 2) := by decide +kernel
theorem dL_law_1000 : decode cL_law 1000 = .ok (.iconst 2, 1) := by decide +kernel
theorem dL_law_1001 : decode cL_law 1001 = .ok (.iadd, 1) := by decide +kernel
theorem dL_law_1002 : decode cL_law 1002 = .ok (.iaload, 1) := by decide +kernel
theorem dL_law_1003 : decode cL_law 1003 = .ok (.invokevirtual 124, 3) := by decide +kernel
theorem dL_law_1006 : decode cL_law 1006 = .ok (.aload_n 2, 1) := by decide +kernel
theorem dL_law_1007 : decode cL_law 1007 = .ok (.aload_n 0, 1) := by decide +kernel
theorem dL_law_1008 : decode cL_law 1008 = .ok (.iload 4, 2) := by decide +kernel
theorem dL_law_1010 : decode cL_law 1010 = .ok (.iconst 1, 1) := by decide +kernel
theorem dL_law_1011 : decode cL_law 1011 = .ok (.iadd, 1) := by decide +kernel
theorem dL_law_1012 : decode cL_law 1012 = .ok (.iaload, 1) := by decide +kernel
theorem dL_law_1013 : decode cL_law 1013 = .ok (.aload_n 0, 1) := by decide +kernel
theorem dL_law_1014 : decode cL_law 1014 = .ok (.iload 4, 2) := by decide +kernel
theorem dL_law_1016 : decode cL_law 1016 = .ok (.iconst 2, 1) := by decide +kernel
theorem dL_law_1017 : decode cL_law 1017 = .ok (.iadd, 1) := by decide +kernel
theorem dL_law_1018 : decode cL_law 1018 = .ok (.iaload, 1) := by decide +kernel
theorem dL_law_1019 : decode cL_law 1019 = .ok (.invokevirtual 128, 3) := by decide +kernel
theorem dL_law_1022 : decode cL_law 1022 = .ok (.lcmp, 1) := by decide +kernel
theorem dL_law_1023 : decode cL_law 1023 = .ok (.ifCond .eq 524, 3) := by decide +kernel
theorem dL_law_1026 : decode cL_law 1026 = .ok (.iconst 0, 1) := by decide +kernel
theorem dL_law_1027 : decode cL_law 1027 = .ok (.ireturn, 1) := by decide +kernel
theorem dL_law_1028 : decode cL_law 1028 = .ok (.aload_n 1, 1) := by decide +kernel
theorem dL_law_1029 : decode cL_law 1029 = .ok (.aload_n 0, 1) := by decide +kernel
theorem dL_law_1030 : decode cL_law 1030 = .ok (.iload 4, 2) := by decide +kernel
theorem dL_law_1032 : decode cL_law 1032 = .ok (.iconst 1, 1) := by decide +kernel
theorem dL_law_1033 : decode cL_law 1033 = .ok (.iadd, 1) := by decide +kernel
theorem dL_law_1034 : decode cL_law 1034 = .ok (.iaload, 1) := by decide +kernel
theorem dL_law_1035 : decode cL_law 1035 = .ok (.invokevirtual 129, 3) := by decide +kernel
theorem dL_law_1038 : decode cL_law 1038 = .ok (.aload_n 2, 1) := by decide +kernel
theorem dL_law_1039 : decode cL_law 1039 = .ok (.aload_n 0, 1) := by decide +kernel
theorem dL_law_1040 : decode cL_law 1040 = .ok (.iload 4, 2) := by decide +kernel
theorem dL_law_1042 : decode cL_law 1042 = .ok (.iconst 1, 1) := by decide +kernel
theorem dL_law_1043 : decode cL_law 1043 = .ok (.iadd, 1) := by decide +kernel
theorem dL_law_1044 : decode cL_law 1044 = .ok (.iaload, 1) := by decide +kernel
theorem dL_law_1045 : decode cL_law 1045 = .ok (.invokevirtual 132, 3) := by decide +kernel
theorem dL_law_1048 : decode cL_law 1048 = .ok (.if_icmp .eq 499, 3) := by decide +kernel
theorem dL_law_1051 : decode cL_law 1051 = .ok (.iconst 0, 1) := by decide +kernel
theorem dL_law_1052 : decode cL_law 1052 = .ok (.ireturn, 1) := by decide +kernel
theorem dL_law_1053 : decode cL_law 1053 = .ok (.aload_n 1, 1) := by decide +kernel
theorem dL_law_1054 : decode cL_law 1054 = .ok (.aload_n 0, 1) := by decide +kernel
theorem dL_law_1055 : decode cL_law 1055 = .ok (.iload 4, 2) := by decide +kernel
theorem dL_law_1057 : decode cL_law 1057 = .ok (.iconst 1, 1) := by decide +kernel
theorem dL_law_1058 : decode cL_law 1058 = .ok (.iadd, 1) := by decide +kernel
theorem dL_law_1059 : decode cL_law 1059 = .ok (.iaload, 1) := by decide +kernel
theorem dL_law_1060 : decode cL_law 1060 = .ok (.ifCond .eq 7, 3) := by decide +kernel
theorem dL_law_1063 : decode cL_law 1063 = .ok (.iconst 1, 1) := by decide +kernel
theorem dL_law_1064 : decode cL_law 1064 = .ok (.goto 4, 3) := by decide +kernel
theorem dL_law_1067 : decode cL_law 1067 = .ok (.iconst 0, 1) := by decide +kernel
theorem dL_law_1068 : decode cL_law 1068 = .ok (.invokevirtual 133, 3) := by decide +kernel
theorem dL_law_1071 : decode cL_law 1071 = .ok (.aload_n 2, 1) := by decide +kernel
theorem dL_law_1072 : decode cL_law 1072 = .ok (.aload_n 0, 1) := by decide +kernel
theorem dL_law_1073 : decode cL_law 1073 = .ok (.iload 4, 2) := by decide +kernel
theorem dL_law_1075 : decode cL_law 1075 = .ok (.iconst 1, 1) := by decide +kernel
theorem dL_law_1076 : decode cL_law 1076 = .ok (.iadd, 1) := by decide +kernel
theorem dL_law_1077 : decode cL_law 1077 = .ok (.iaload, 1) := by decide +kernel
theorem dL_law_1078 : decode cL_law 1078 = .ok (.ifCond .eq 7, 3) := by decide +kernel
theorem dL_law_1081 : decode cL_law 1081 = .ok (.iconst 1, 1) := by decide +kernel
theorem dL_law_1082 : decode cL_law 1082 = .ok (.goto 4, 3) := by decide +kernel
theorem dL_law_1085 : decode cL_law 1085 = .ok (.iconst 0, 1) := by decide +kernel
theorem dL_law_1086 : decode cL_law 1086 = .ok (.invokevirtual 137, 3) := by decide +kernel
theorem dL_law_1089 : decode cL_law 1089 = .ok (.lcmp, 1) := by decide +kernel
theorem dL_law_1090 : decode cL_law 1090 = .ok (.ifCond .eq 457, 3) := by decide +kernel
theorem dL_law_1093 : decode cL_law 1093 = .ok (.iconst 0, 1) := by decide +kernel
theorem dL_law_1094 : decode cL_law 1094 = .ok (.ireturn, 1) := by decide +kernel
theorem dL_law_1095 : decode cL_law 1095 = .ok (.aload_n 1, 1) := by decide +kernel
theorem dL_law_1096 : decode cL_law 1096 = .ok (.aload_n 0, 1) := by decide +kernel
theorem dL_law_1097 : decode cL_law 1097 = .ok (.iload 4, 2) := by decide +kernel
theorem dL_law_1099 : decode cL_law 1099 = .ok (.iconst 1, 1) := by decide +kernel
theorem dL_law_1100 : decode cL_law 1100 = .ok (.iadd, 1) := by decide +kernel
theorem dL_law_1101 : decode cL_law 1101 = .ok (.iaload, 1) := by decide +kernel
theorem dL_law_1102 : decode cL_law 1102 = .ok (.invokevirtual 138, 3) := by decide +kernel
theorem dL_law_1105 : decode cL_law 1105 = .ok (.aload_n 2, 1) := by decide +kernel
theorem dL_law_1106 : decode cL_law 1106 = .ok (.aload_n 0, 1) := by decide +kernel
theorem dL_law_1107 : decode cL_law 1107 = .ok (.iload 4, 2) := by decide +kernel
theorem dL_law_1109 : decode cL_law 1109 = .ok (.iconst 1, 1) := by decide +kernel
theorem dL_law_1110 : decode cL_law 1110 = .ok (.iadd, 1) := by decide +kernel
theorem dL_law_1111 : decode cL_law 1111 = .ok (.iaload, 1) := by decide +kernel
theorem dL_law_1112 : decode cL_law 1112 = .ok (.invokevirtual 141, 3) := by decide +kernel
theorem dL_law_1115 : decode cL_law 1115 = .ok (.if_icmp .eq 432, 3) := by decide +kernel
theorem dL_law_1118 : decode cL_law 1118 = .ok (.iconst 0, 1) := by decide +kernel
theorem dL_law_1119 : decode cL_law 1119 = .ok (.ireturn, 1) := by decide +kernel
theorem dL_law_1120 : decode cL_law 1120 = .ok (.aload_n 1, 1) := by decide +kernel
theorem dL_law_1121 : decode cL_law 1121 = .ok (.invokevirtual 142, 3) := by decide +kernel
theorem dL_law_1124 : decode cL_law 1124 = .ok (.aload_n 2, 1) := by decide +kernel
theorem dL_law_1125 : decode cL_law 1125 = .ok (.invokevirtual 145, 3) := by decide +kernel
theorem dL_law_1128 : decode cL_law 1128 = .ok (.if_icmp .eq 419, 3) := by decide +kernel
theorem dL_law_1131 : decode cL_law 1131 = .ok (.iconst 0, 1) := by decide +kernel
theorem dL_law_1132 : decode cL_law 1132 = .ok (.ireturn, 1) := by decide +kernel
theorem dL_law_1133 : decode cL_law 1133 = .ok (.aload_n 1, 1) := by decide +kernel
theorem dL_law_1134 : decode cL_law 1134 = .ok (.aload_n 0, 1) := by decide +kernel
theorem dL_law_1135 : decode cL_law 1135 = .ok (.iload 4, 2) := by decide +kernel
theorem dL_law_1137 : decode cL_law 1137 = .ok (.iconst 1, 1) := by decide +kernel
theorem dL_law_1138 : decode cL_law 1138 = .ok (.iadd, 1) := by decide +kernel
theorem dL_law_1139 : decode cL_law 1139 = .ok (.iaload, 1) := by decide +kernel
theorem dL_law_1140 : decode cL_law 1140 = .ok (.invokevirtual 146, 3) := by decide +kernel
theorem dL_law_1143 : decode cL_law 1143 = .ok (.aload_n 2, 1) := by decide +kernel
theorem dL_law_1144 : decode cL_law 1144 = .ok (.aload_n 0, 1) := by decide +kernel
theorem dL_law_1145 : decode cL_law 1145 = .ok (.iload 4, 2) := by decide +kernel
theorem dL_law_1147 : decode cL_law 1147 = .ok (.iconst 1, 1) := by decide +kernel
theorem dL_law_1148 : decode cL_law 1148 = .ok (.iadd, 1) := by decide +kernel
theorem dL_law_1149 : decode cL_law 1149 = .ok (.iaload, 1) := by decide +kernel
theorem dL_law_1150 : decode cL_law 1150 = .ok (.invokevirtual 149, 3) := by decide +kernel
theorem dL_law_1153 : decode cL_law 1153 = .ok (.if_icmp .eq 394, 3) := by decide +kernel
theorem dL_law_1156 : decode cL_law 1156 = .ok (.iconst 0, 1) := by decide +kernel
theorem dL_law_1157 : decode cL_law 1157 = .ok (.ireturn, 1) := by decide +kernel
theorem dL_law_1158 : decode cL_law 1158 = .ok (.aload_n 1, 1) := by decide +kernel
theorem dL_law_1159 : decode cL_law 1159 = .ok (.aload_n 0, 1) := by decide +kernel
theorem dL_law_1160 : decode cL_law 1160 = .ok (.iload 4, 2) := by decide +kernel
theorem dL_law_1162 : decode cL_law 1162 = .ok (.iconst 1, 1) := by decide +kernel
theorem dL_law_1163 : decode cL_law 1163 = .ok (.iadd, 1) := by decide +kernel
theorem dL_law_1164 : decode cL_law 1164 = .ok (.iaload, 1) := by decide +kernel
theorem dL_law_1165 : decode cL_law 1165 = .ok (.invokevirtual 150, 3) := by decide +kernel
theorem dL_law_1168 : decode cL_law 1168 = .ok (.aload_n 2, 1) := by decide +kernel
theorem dL_law_1169 : decode cL_law 1169 = .ok (.aload_n 0, 1) := by decide +kernel
theorem dL_law_1170 : decode cL_law 1170 = .ok (.iload 4, 2) := by decide +kernel
theorem dL_law_1172 : decode cL_law 1172 = .ok (.iconst 1, 1) := by decide +kernel
theorem dL_law_1173 : decode cL_law 1173 = .ok (.iadd, 1) := by decide +kernel
theorem dL_law_1174 : decode cL_law 1174 = .ok (.iaload, 1) := by decide +kernel
theorem dL_law_1175 : decode cL_law 1175 = .ok (.invokevirtual 153, 3) := by decide +kernel
theorem dL_law_1178 : decode cL_law 1178 = .ok (.if_icmp .eq 369, 3) := by decide +kernel
theorem dL_law_1181 : decode cL_law 1181 = .ok (.iconst 0, 1) := by decide +kernel
theorem dL_law_1182 : decode cL_law 1182 = .ok (.ireturn, 1) := by decide +kernel
theorem dL_law_1183 : decode cL_law 1183 = .ok (.aload_n 1, 1) := by decide +kernel
theorem dL_law_1184 : decode cL_law 1184 = .ok (.aload_n 0, 1) := by decide +kernel
theorem dL_law_1185 : decode cL_law 1185 = .ok (.iload 4, 2) := by decide +kernel
theorem dL_law_1187 : decode cL_law 1187 = .ok (.iconst 1, 1) := by decide +kernel
theorem dL_law_1188 : decode cL_law 1188 = .ok (.iadd, 1) := by decide +kernel
theorem dL_law_1189 : decode cL_law 1189 = .ok (.iaload, 1) := by decide +kernel
theorem dL_law_1190 : decode cL_law 1190 = .ok (.aload_n 0, 1) := by decide +kernel
theorem dL_law_1191 : decode cL_law 1191 = .ok (.iload 4, 2) := by decide +kernel
theorem dL_law_1193 : decode cL_law 1193 = .ok (.iconst 2, 1) := by decide +kernel
theorem dL_law_1194 : decode cL_law 1194 = .ok (.iadd, 1) := by decide +kernel
theorem dL_law_1195 : decode cL_law 1195 = .ok (.iaload, 1) := by decide +kernel
theorem dL_law_1196 : decode cL_law 1196 = .ok (.invokevirtual 154, 3) := by decide +kernel
theorem dL_law_1199 : decode cL_law 1199 = .ok (.aload_n 2, 1) := by decide +kernel
theorem dL_law_1200 : decode cL_law 1200 = .ok (.aload_n 0, 1) := by decide +kernel
theorem dL_law_1201 : decode cL_law 1201 = .ok (.iload 4, 2) := by decide +kernel
theorem dL_law_1203 : decode cL_law 1203 = .ok (.iconst 1, 1) := by decide +kernel
theorem dL_law_1204 : decode cL_law 1204 = .ok (.iadd, 1) := by decide +kernel
theorem dL_law_1205 : decode cL_law 1205 = .ok (.iaload, 1) := by decide +kernel
theorem dL_law_1206 : decode cL_law 1206 = .ok (.aload_n 0, 1) := by decide +kernel
theorem dL_law_1207 : decode cL_law 1207 = .ok (.iload 4, 2) := by decide +kernel
theorem dL_law_1209 : decode cL_law 1209 = .ok (.iconst 2, 1) := by decide +kernel
theorem dL_law_1210 : decode cL_law 1210 = .ok (.iadd, 1) := by decide +kernel
theorem dL_law_1211 : decode cL_law 1211 = .ok (.iaload, 1) := by decide +kernel
theorem dL_law_1212 : decode cL_law 1212 = .ok (.invokevirtual 157, 3) := by decide +kernel
theorem dL_law_1215 : decode cL_law 1215 = .ok (.if_icmp .eq 332, 3) := by decide +kernel
theorem dL_law_1218 : decode cL_law 1218 = .ok (.iconst 0, 1) := by decide +kernel
theorem dL_law_1219 : decode cL_law 1219 = .ok (.ireturn, 1) := by decide +kernel
theorem dL_law_1220 : decode cL_law 1220 = .ok (.aload_n 1, 1) := by decide +kernel
theorem dL_law_1221 : decode cL_law 1221 = .ok (.aload_n 0, 1) := by decide +kernel
theorem dL_law_1222 : decode cL_law 1222 = .ok (.iload 4, 2) := by decide +kernel
theorem dL_law_1224 : decode cL_law 1224 = .ok (.iconst 1, 1) := by decide +kernel
theorem dL_law_1225 : decode cL_law 1225 = .ok (.iadd, 1) := by decide +kernel
theorem dL_law_1226 : decode cL_law 1226 = .ok (.iaload, 1) := by decide +kernel
theorem dL_law_1227 : decode cL_law 1227 = .ok (.invokevirtual 158, 3) := by decide +kernel
theorem dL_law_1230 : decode cL_law 1230 = .ok (.aload_n 2, 1) := by decide +kernel
theorem dL_law_1231 : decode cL_law 1231 = .ok (.aload_n 0, 1) := by decide +kernel
theorem dL_law_1232 : decode cL_law 1232 = .ok (.iload 4, 2) := by decide +kernel
theorem dL_law_1234 : decode cL_law 1234 = .ok (.iconst 1, 1) := by decide +kernel
theorem dL_law_1235 : decode cL_law 1235 = .ok (.iadd, 1) := by decide +kernel
theorem dL_law_1236 : decode cL_law 1236 = .ok (.iaload, 1) := by decide +kernel
theorem dL_law_1237 : decode cL_law 1237 = .ok (.invokevirtual 161, 3) := by decide +kernel
theorem dL_law_1240 : decode cL_law 1240 = .ok (.if_icmp .eq 307, 3) := by decide +kernel
theorem dL_law_1243 : decode cL_law 1243 = .ok (.iconst 0, 1) := by decide +kernel
theorem dL_law_1244 : decode cL_law 1244 = .ok (.ireturn, 1) := by decide +kernel
theorem dL_law_1245 : decode cL_law 1245 = .ok (.aload_n 1, 1) := by decide +kernel
theorem dL_law_1246 : decode cL_law 1246 = .ok (.invokevirtual 162, 3) := by decide +kernel
theorem dL_law_1249 : decode cL_law 1249 = .ok (.aload_n 2, 1) := by decide +kernel
theorem dL_law_1250 : decode cL_law 1250 = .ok (.invokevirtual 165, 3) := by decide +kernel
theorem dL_law_1253 : decode cL_law 1253 = .ok (.if_icmp .eq 294, 3) := by decide +kernel
theorem dL_law_1256 : decode cL_law 1256 = .ok (.iconst 0, 1) := by decide +kernel
theorem dL_law_1257 : decode cL_law 1257 = .ok (.ireturn, 1) := by decide +kernel
theorem dL_law_1258 : decode cL_law 1258 = .ok (.aload_n 1, 1) := by decide +kernel
theorem dL_law_1259 : decode cL_law 1259 = .ok (.aload_n 0, 1) := by decide +kernel
theorem dL_law_1260 : decode cL_law 1260 = .ok (.iload 4, 2) := by decide +kernel
theorem dL_law_1262 : decode cL_law 1262 = .ok (.iconst 1, 1) := by decide +kernel
theorem dL_law_1263 : decode cL_law 1263 = .ok (.iadd, 1) := by decide +kernel
theorem dL_law_1264 : decode cL_law 1264 = .ok (.iaload, 1) := by decide +kernel
theorem dL_law_1265 : decode cL_law 1265 = .ok (.invokevirtual 166, 3) := by decide +kernel
theorem dL_law_1268 : decode cL_law 1268 = .ok (.aload_n 2, 1) := by decide +kernel
theorem dL_law_1269 : decode cL_law 1269 = .ok (.aload_n 0, 1) := by decide +kernel
theorem dL_law_1270 : decode cL_law 1270 = .ok (.iload 4, 2) := by decide +kernel
theorem dL_law_1272 : decode cL_law 1272 = .ok (.iconst 1, 1) := by decide +kernel
theorem dL_law_1273 : decode cL_law 1273 = .ok (.iadd, 1) := by decide +kernel
theorem dL_law_1274 : decode cL_law 1274 = .ok (.iaload, 1) := by decide +kernel
theorem dL_law_1275 : decode cL_law 1275 = .ok (.invokevirtual 169, 3) := by decide +kernel
theorem dL_law_1278 : decode cL_law 1278 = .ok (.if_icmp .eq 269, 3) := by decide +kernel
theorem dL_law_1281 : decode cL_law 1281 = .ok (.iconst 0, 1) := by decide +kernel
theorem dL_law_1282 : decode cL_law 1282 = .ok (.ireturn, 1) := by decide +kernel
theorem dL_law_1283 : decode cL_law 1283 = .ok (.aload_n 1, 1) := by decide +kernel
theorem dL_law_1284 : decode cL_law 1284 = .ok (.aload_n 0, 1) := by decide +kernel
theorem dL_law_1285 : decode cL_law 1285 = .ok (.iload 4, 2) := by decide +kernel
theorem dL_law_1287 : decode cL_law 1287 = .ok (.iconst 1, 1) := by decide +kernel
theorem dL_law_1288 : decode cL_law 1288 = .ok (.iadd, 1) := by decide +kernel
theorem dL_law_1289 : decode cL_law 1289 = .ok (.iaload, 1) := by decide +kernel
theorem dL_law_1290 : decode cL_law 1290 = .ok (.invokevirtual 170, 3) := by decide +kernel
theorem dL_law_1293 : decode cL_law 1293 = .ok (.aload_n 2, 1) := by decide +kernel
theorem dL_law_1294 : decode cL_law 1294 = .ok (.aload_n 0, 1) := by decide +kernel
theorem dL_law_1295 : decode cL_law 1295 = .ok (.iload 4, 2) := by decide +kernel
theorem dL_law_1297 : decode cL_law 1297 = .ok (.iconst 1, 1) := by decide +kernel
theorem dL_law_1298 : decode cL_law 1298 = .ok (.iadd, 1) := by decide +kernel
theorem dL_law_1299 : decode cL_law 1299 = .ok (.iaload, 1) := by decide +kernel
theorem dL_law_1300 : decode cL_law 1300 = .ok (.invokevirtual 173, 3) := by decide +kernel
theorem dL_law_1303 : decode cL_law 1303 = .ok (.if_icmp .eq 244, 3) := by decide +kernel
theorem dL_law_1306 : decode cL_law 1306 = .ok (.iconst 0, 1) := by decide +kernel
theorem dL_law_1307 : decode cL_law 1307 = .ok (.ireturn, 1) := by decide +kernel
theorem dL_law_1308 : decode cL_law 1308 = .ok (.aload_n 1, 1) := by decide +kernel
theorem dL_law_1309 : decode cL_law 1309 = .ok (.invokevirtual 174, 3) := by decide +kernel
theorem dL_law_1312 : decode cL_law 1312 = .ok (.aload_n 2, 1) := by decide +kernel
theorem dL_law_1313 : decode cL_law 1313 = .ok (.invokevirtual 177, 3) := by decide +kernel
theorem dL_law_1316 : decode cL_law 1316 = .ok (.if_icmp .eq 231, 3) := by decide +kernel
theorem dL_law_1319 : decode cL_law 1319 = .ok (.iconst 0, 1) := by decide +kernel
theorem dL_law_1320 : decode cL_law 1320 = .ok (.ireturn, 1) := by decide +kernel
theorem dL_law_1321 : decode cL_law 1321 = .ok (.aload_n 1, 1) := by decide +kernel
theorem dL_law_1322 : decode cL_law 1322 = .ok (.aload_n 0, 1) := by decide +kernel
theorem dL_law_1323 : decode cL_law 1323 = .ok (.iload 4, 2) := by decide +kernel
theorem dL_law_1325 : decode cL_law 1325 = .ok (.iconst 1, 1) := by decide +kernel
theorem dL_law_1326 : decode cL_law 1326 = .ok (.iadd, 1) := by decide +kernel
theorem dL_law_1327 : decode cL_law 1327 = .ok (.iaload, 1) := by decide +kernel
theorem dL_law_1328 : decode cL_law 1328 = .ok (.invokevirtual 178, 3) := by decide +kernel
theorem dL_law_1331 : decode cL_law 1331 = .ok (.aload_n 2, 1) := by decide +kernel
theorem dL_law_1332 : decode cL_law 1332 = .ok (.aload_n 0, 1) := by decide +kernel
theorem dL_law_1333 : decode cL_law 1333 = .ok (.iload 4, 2) := by decide +kernel
theorem dL_law_1335 : decode cL_law 1335 = .ok (.iconst 1, 1) := by decide +kernel
theorem dL_law_1336 : decode cL_law 1336 = .ok (.iadd, 1) := by decide +kernel
theorem dL_law_1337 : decode cL_law 1337 = .ok (.iaload, 1) := by decide +kernel
theorem dL_law_1338 : decode cL_law 1338 = .ok (.invokevirtual 181, 3) := by decide +kernel
theorem dL_law_1341 : decode cL_law 1341 = .ok (.lcmp, 1) := by decide +kernel
theorem dL_law_1342 : decode cL_law 1342 = .ok (.ifCond .eq 205, 3) := by decide +kernel
theorem dL_law_1345 : decode cL_law 1345 = .ok (.iconst 0, 1) := by decide +kernel
theorem dL_law_1346 : decode cL_law 1346 = .ok (.ireturn, 1) := by decide +kernel
theorem dL_law_1347 : decode cL_law 1347 = .ok (.aload_n 1, 1) := by decide +kernel
theorem dL_law_1348 : decode cL_law 1348 = .ok (.aload_n 0, 1) := by decide +kernel
theorem dL_law_1349 : decode cL_law 1349 = .ok (.iload 4, 2) := by decide +kernel
theorem dL_law_1351 : decode cL_law 1351 = .ok (.iconst 1, 1) := by decide +kernel
theorem dL_law_1352 : decode cL_law 1352 = .ok (.iadd, 1) := by decide +kernel
theorem dL_law_1353 : decode cL_law 1353 = .ok (.iaload, 1) := by decide +kernel
theorem dL_law_1354 : decode cL_law 1354 = .ok (.invokevirtual 182, 3) := by decide +kernel
theorem dL_law_1357 : decode cL_law 1357 = .ok (.aload_n 2, 1) := by decide +kernel
theorem dL_law_1358 : decode cL_law 1358 = .ok (.aload_n 0, 1) := by decide +kernel
theorem dL_law_1359 : decode cL_law 1359 = .ok (.iload 4, 2) := by decide +kernel
theorem dL_law_1361 : decode cL_law 1361 = .ok (.iconst 1, 1) := by decide +kernel
theorem dL_law_1362 : decode cL_law 1362 = .ok (.iadd, 1) := by decide +kernel
theorem dL_law_1363 : decode cL_law 1363 = .ok (.iaload, 1) := by decide +kernel
theorem dL_law_1364 : decode cL_law 1364 = .ok (.invokevirtual 185, 3) := by decide +kernel
theorem dL_law_1367 : decode cL_law 1367 = .ok (.if_icmp .eq 180, 3) := by decide +kernel
theorem dL_law_1370 : decode cL_law 1370 = .ok (.iconst 0, 1) := by decide +kernel
theorem dL_law_1371 : decode cL_law 1371 = .ok (.ireturn, 1) := by decide +kernel
theorem dL_law_1372 : decode cL_law 1372 = .ok (.aload_n 1, 1) := by decide +kernel
theorem dL_law_1373 : decode cL_law 1373 = .ok (.aload_n 0, 1) := by decide +kernel
theorem dL_law_1374 : decode cL_law 1374 = .ok (.iload 4, 2) := by decide +kernel
theorem dL_law_1376 : decode cL_law 1376 = .ok (.iconst 1, 1) := by decide +kernel
theorem dL_law_1377 : decode cL_law 1377 = .ok (.iadd, 1) := by decide +kernel
theorem dL_law_1378 : decode cL_law 1378 = .ok (.iaload, 1) := by decide +kernel
theorem dL_law_1379 : decode cL_law 1379 = .ok (.aload_n 0, 1) := by decide +kernel
theorem dL_law_1380 : decode cL_law 1380 = .ok (.iload 4, 2) := by decide +kernel
theorem dL_law_1382 : decode cL_law 1382 = .ok (.iconst 2, 1) := by decide +kernel
theorem dL_law_1383 : decode cL_law 1383 = .ok (.iadd, 1) := by decide +kernel
theorem dL_law_1384 : decode cL_law 1384 = .ok (.iaload, 1) := by decide +kernel
theorem dL_law_1385 : decode cL_law 1385 = .ok (.invokevirtual 186, 3) := by decide +kernel
theorem dL_law_1388 : decode cL_law 1388 = .ok (.aload_n 2, 1) := by decide +kernel
theorem dL_law_1389 : decode cL_law 1389 = .ok (.aload_n 0, 1) := by decide +kernel
theorem dL_law_1390 : decode cL_law 1390 = .ok (.iload 4, 2) := by decide +kernel
theorem dL_law_1392 : decode cL_law 1392 = .ok (.iconst 1, 1) := by decide +kernel
theorem dL_law_1393 : decode cL_law 1393 = .ok (.iadd, 1) := by decide +kernel
theorem dL_law_1394 : decode cL_law 1394 = .ok (.iaload, 1) := by decide +kernel
theorem dL_law_1395 : decode cL_law 1395 = .ok (.aload_n 0, 1) := by decide +kernel
theorem dL_law_1396 : decode cL_law 1396 = .ok (.iload 4, 2) := by decide +kernel
theorem dL_law_1398 : decode cL_law 1398 = .ok (.iconst 2, 1) := by decide +kernel
theorem dL_law_1399 : decode cL_law 1399 = .ok (.iadd, 1) := by decide +kernel
theorem dL_law_1400 : decode cL_law 1400 = .ok (.iaload, 1) := by decide +kernel
theorem dL_law_1401 : decode cL_law 1401 = .ok (.invokevirtual 189, 3) := by decide +kernel
theorem dL_law_1404 : decode cL_law 1404 = .ok (.if_icmp .eq 143, 3) := by decide +kernel
theorem dL_law_1407 : decode cL_law 1407 = .ok (.iconst 0, 1) := by decide +kernel
theorem dL_law_1408 : decode cL_law 1408 = .ok (.ireturn, 1) := by decide +kernel
theorem dL_law_1409 : decode cL_law 1409 = .ok (.aload_n 1, 1) := by decide +kernel
theorem dL_law_1410 : decode cL_law 1410 = .ok (.aload_n 0, 1) := by decide +kernel
theorem dL_law_1411 : decode cL_law 1411 = .ok (.iload 4, 2) := by decide +kernel
theorem dL_law_1413 : decode cL_law 1413 = .ok (.iconst 1, 1) := by decide +kernel
theorem dL_law_1414 : decode cL_law 1414 = .ok (.iadd, 1) := by decide +kernel
theorem dL_law_1415 : decode cL_law 1415 = .ok (.iaload, 1) := by decide +kernel
theorem dL_law_1416 : decode cL_law 1416 = .ok (.invokevirtual 190, 3) := by decide +kernel
theorem dL_law_1419 : decode cL_law 1419 = .ok (.aload_n 2, 1) := by decide +kernel
theorem dL_law_1420 : decode cL_law 1420 = .ok (.aload_n 0, 1) := by decide +kernel
theorem dL_law_1421 : decode cL_law 1421 = .ok (.iload 4, 2) := by decide +kernel
theorem dL_law_1423 : decode cL_law 1423 = .ok (.iconst 1, 1) := by decide +kernel
theorem dL_law_1424 : decode cL_law 1424 = .ok (.iadd, 1) := by decide +kernel
theorem dL_law_1425 : decode cL_law 1425 = .ok (.iaload, 1) := by decide +kernel
theorem dL_law_1426 : decode cL_law 1426 = .ok (.invokevirtual 193, 3) := by decide +kernel
theorem dL_law_1429 : decode cL_law 1429 = .ok (.if_icmp .eq 118, 3) := by decide +kernel
theorem dL_law_1432 : decode cL_law 1432 = .ok (.iconst 0, 1) := by decide +kernel
theorem dL_law_1433 : decode cL_law 1433 = .ok (.ireturn, 1) := by decide +kernel
theorem dL_law_1434 : decode cL_law 1434 = .ok (.aload_n 1, 1) := by decide +kernel
theorem dL_law_1435 : decode cL_law 1435 = .ok (.aload_n 0, 1) := by decide +kernel
theorem dL_law_1436 : decode cL_law 1436 = .ok (.iload 4, 2) := by decide +kernel
theorem dL_law_1438 : decode cL_law 1438 = .ok (.iconst 1, 1) := by decide +kernel
theorem dL_law_1439 : decode cL_law 1439 = .ok (.iadd, 1) := by decide +kernel
theorem dL_law_1440 : decode cL_law 1440 = .ok (.iaload, 1) := by decide +kernel
theorem dL_law_1441 : decode cL_law 1441 = .ok (.aload_n 0, 1) := by decide +kernel
theorem dL_law_1442 : decode cL_law 1442 = .ok (.iload 4, 2) := by decide +kernel
theorem dL_law_1444 : decode cL_law 1444 = .ok (.iconst 2, 1) := by decide +kernel
theorem dL_law_1445 : decode cL_law 1445 = .ok (.iadd, 1) := by decide +kernel
theorem dL_law_1446 : decode cL_law 1446 = .ok (.iaload, 1) := by decide +kernel
theorem dL_law_1447 : decode cL_law 1447 = .ok (.aload_n 0, 1) := by decide +kernel
theorem dL_law_1448 : decode cL_law 1448 = .ok (.iload 4, 2) := by decide +kernel
theorem dL_law_1450 : decode cL_law 1450 = .ok (.iconst 3, 1) := by decide +kernel
theorem dL_law_1451 : decode cL_law 1451 = .ok (.iadd, 1) := by decide +kernel
theorem dL_law_1452 : decode cL_law 1452 = .ok (.iaload, 1) := by decide +kernel
theorem dL_law_1453 : decode cL_law 1453 = .ok (.invokevirtual 194, 3) := by decide +kernel
theorem dL_law_1456 : decode cL_law 1456 = .ok (.aload_n 2, 1) := by decide +kernel
theorem dL_law_1457 : decode cL_law 1457 = .ok (.aload_n 0, 1) := by decide +kernel
theorem dL_law_1458 : decode cL_law 1458 = .ok (.iload 4, 2) := by decide +kernel
theorem dL_law_1460 : decode cL_law 1460 = .ok (.iconst 1, 1) := by decide +kernel
theorem dL_law_1461 : decode cL_law 1461 = .ok (.iadd, 1) := by decide +kernel
theorem dL_law_1462 : decode cL_law 1462 = .ok (.iaload, 1) := by decide +kernel
theorem dL_law_1463 : decode cL_law 1463 = .ok (.aload_n 0, 1) := by decide +kernel
theorem dL_law_1464 : decode cL_law 1464 = .ok (.iload 4, 2) := by decide +kernel
theorem dL_law_1466 : decode cL_law 1466 = .ok (.iconst 2, 1) := by decide +kernel
theorem dL_law_1467 : decode cL_law 1467 = .ok (.iadd, 1) := by decide +kernel
theorem dL_law_1468 : decode cL_law 1468 = .ok (.iaload, 1) := by decide +kernel
theorem dL_law_1469 : decode cL_law 1469 = .ok (.aload_n 0, 1) := by decide +kernel
theorem dL_law_1470 : decode cL_law 1470 = .ok (.iload 4, 2) := by decide +kernel
theorem dL_law_1472 : decode cL_law 1472 = .ok (.iconst 3, 1) := by decide +kernel
theorem dL_law_1473 : decode cL_law 1473 = .ok (.iadd, 1) := by decide +kernel
theorem dL_law_1474 : decode cL_law 1474 = .ok (.iaload, 1) := by decide +kernel
theorem dL_law_1475 : decode cL_law 1475 = .ok (.invokevirtual 198, 3) := by decide +kernel
theorem dL_law_1478 : decode cL_law 1478 = .ok (.if_icmp .eq 69, 3) := by decide +kernel
theorem dL_law_1481 : decode cL_law 1481 = .ok (.iconst 0, 1) := by decide +kernel
theorem dL_law_1482 : decode cL_law 1482 = .ok (.ireturn, 1) := by decide +kernel
theorem dL_law_1483 : decode cL_law 1483 = .ok (.aload_n 1, 1) := by decide +kernel
theorem dL_law_1484 : decode cL_law 1484 = .ok (.invokevirtual 199, 3) := by decide +kernel
theorem dL_law_1487 : decode cL_law 1487 = .ok (.aload_n 2, 1) := by decide +kernel
theorem dL_law_1488 : decode cL_law 1488 = .ok (.invokevirtual 202, 3) := by decide +kernel
theorem dL_law_1491 : decode cL_law 1491 = .ok (.if_icmp .eq 56, 3) := by decide +kernel
theorem dL_law_1494 : decode cL_law 1494 = .ok (.iconst 0, 1) := by decide +kernel
theorem dL_law_1495 : decode cL_law 1495 = .ok (.ireturn, 1) := by decide +kernel
theorem dL_law_1496 : decode cL_law 1496 = .ok (.aload_n 1, 1) := by decide +kernel
theorem dL_law_1497 : decode cL_law 1497 = .ok (.invokevirtual 203, 3) := by decide +kernel
theorem dL_law_1500 : decode cL_law 1500 = .ok (.aload_n 2, 1) := by decide +kernel
theorem dL_law_1501 : decode cL_law 1501 = .ok (.invokevirtual 206, 3) := by decide +kernel
theorem dL_law_1504 : decode cL_law 1504 = .ok (.if_icmp .eq 43, 3) := by decide +kernel
theorem dL_law_1507 : decode cL_law 1507 = .ok (.iconst 0, 1) := by decide +kernel
theorem dL_law_1508 : decode cL_law 1508 = .ok (.ireturn, 1) := by decide +kernel
theorem dL_law_1509 : decode cL_law 1509 = .ok (.aload_n 1, 1) := by decide +kernel
theorem dL_law_1510 : decode cL_law 1510 = .ok (.invokevirtual 207, 3) := by decide +kernel
theorem dL_law_1513 : decode cL_law 1513 = .ok (.aload_n 2, 1) := by decide +kernel
theorem dL_law_1514 : decode cL_law 1514 = .ok (.invokevirtual 210, 3) := by decide +kernel
theorem dL_law_1517 : decode cL_law 1517 = .ok (.if_icmp .eq 30, 3) := by decide +kernel
theorem dL_law_1520 : decode cL_law 1520 = .ok (.iconst 0, 1) := by decide +kernel
theorem dL_law_1521 : decode cL_law 1521 = .ok (.ireturn, 1) := by decide +kernel
theorem dL_law_1522 : decode cL_law 1522 = .ok (.aload_n 1, 1) := by decide +kernel
theorem dL_law_1523 : decode cL_law 1523 = .ok (.aload_n 0, 1) := by decide +kernel
theorem dL_law_1524 : decode cL_law 1524 = .ok (.iload 4, 2) := by decide +kernel
theorem dL_law_1526 : decode cL_law 1526 = .ok (.iconst 1, 1) := by decide +kernel
theorem dL_law_1527 : decode cL_law 1527 = .ok (.iadd, 1) := by decide +kernel
theorem dL_law_1528 : decode cL_law 1528 = .ok (.iaload, 1) := by decide +kernel
theorem dL_law_1529 : decode cL_law 1529 = .ok (.invokevirtual 211, 3) := by decide +kernel
theorem dL_law_1532 : decode cL_law 1532 = .ok (.aload_n 2, 1) := by decide +kernel
theorem dL_law_1533 : decode cL_law 1533 = .ok (.aload_n 0, 1) := by decide +kernel
theorem dL_law_1534 : decode cL_law 1534 = .ok (.iload 4, 2) := by decide +kernel
theorem dL_law_1536 : decode cL_law 1536 = .ok (.iconst 1, 1) := by decide +kernel
theorem dL_law_1537 : decode cL_law 1537 = .ok (.iadd, 1) := by decide +kernel
theorem dL_law_1538 : decode cL_law 1538 = .ok (.iaload, 1) := by decide +kernel
theorem dL_law_1539 : decode cL_law 1539 = .ok (.invokevirtual 214, 3) := by decide +kernel
theorem dL_law_1542 : decode cL_law 1542 = .ok (.if_icmp .eq 5, 3) := by decide +kernel
theorem dL_law_1545 : decode cL_law 1545 = .ok (.iconst 0, 1) := by decide +kernel
theorem dL_law_1546 : decode cL_law 1546 = .ok (.ireturn, 1) := by decide +kernel
theorem dL_law_1547 : decode cL_law 1547 = .ok (.iinc 4 6, 3) := by decide +kernel
theorem dL_law_1550 : decode cL_law 1550 = .ok (.goto (-1527), 3) := by decide +kernel
theorem dL_law_1553 : decode cL_law 1553 = .ok (.iconst 1, 1) := by decide +kernel
theorem dL_law_1554 : decode cL_law 1554 = .ok (.ireturn, 1) := by decide +kernel

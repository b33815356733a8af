theorem dX9_token_207 : decode cX9_token 207 = .ok (.aload_n 0, 1) := by decide +kernel
theorem dX9_token_208 : decode cX9_token 208 = .ok (.dup, 1) := by decide +kernel
theorem dX9_token_209 : decode cX9_token 209 = .ok (.getfield 109, 3) := by decide +kernel
theorem dX9_token_212 : decode cX9_token 212 = .ok (.iconst 1, 1) := by decide +kernel
theorem dX9_token_213 : decode cX9_token 213 = .ok (.iadd, 1) := by decide +kernel
theorem dX9_token_214 : decode cX9_token 214 = .ok (.putfield 109, 3) := by decide +kernel
theorem dX9_token_217 : decode cX9_token 217 = .ok (.goto (-55), 3) := by decide +kernel
theorem dX9_token_220 : decode cX9_token 220 = .ok (.aload_n 0, 1) := by decide +kernel
theorem dX9_token_221 : decode cX9_token 221 = .ok (.iload_n 1, 1) := by decide +kernel
theorem dX9_token_222 : decode cX9_token 222 = .ok (.bipush 59, 2) := by decide +kernel
theorem dX9_token_224 : decode cX9_token 224 = .ok (.if_icmp .ne 7, 3) := by decide +kernel
theorem dX9_token_227 : decode cX9_token 227 = .ok (.iconst 3, 1) := by decide +kernel
theorem dX9_token_228 : decode cX9_token 228 = .ok (.goto 4, 3) := by decide +kernel
theorem dX9_token_231 : decode cX9_token 231 = .ok (.iconst 5, 1) := by decide +kernel
theorem dX9_token_232 : decode cX9_token 232 = .ok (.putfield 122, 3) := by decide +kernel
theorem dX9_token_235 : decode cX9_token 235 = .ok (.aload_n 0, 1) := by decide +kernel
theorem dX9_token_236 : decode cX9_token 236 = .ok (.dup, 1) := by decide +kernel
theorem dX9_token_237 : decode cX9_token 237 = .ok (.getfield 109, 3) := by decide +kernel
theorem dX9_token_240 : decode cX9_token 240 = .ok (.iconst 1, 1) := by decide +kernel
theorem dX9_token_241 : decode cX9_token 241 = .ok (.iadd, 1) := by decide +kernel
theorem dX9_token_242 : decode cX9_token 242 = .ok (.putfield 109, 3) := by decide +kernel
theorem dX9_token_245 : decode cX9_token 245 = .ok (.return_, 1) := by decide +kernel
theorem dX9_wordHere_0 : decode cX9_wordHere 0 = .ok (.iconst 0, 1) := by decide +kernel
theorem dX9_wordHere_1 : decode cX9_wordHere 1 = .ok (.istore_n 1, 1) := by decide +kernel
theorem dX9_wordHere_2 : decode cX9_wordHere 2 = .ok (.iconst 0, 1) := by decide +kernel
theorem dX9_wordHere_3 : decode cX9_wordHere 3 = .ok (.istore_n 2, 1) := by decide +kernel
theorem dX9_wordHere_4 : decode cX9_wordHere 4 = .ok (.iload_n 2, 1) := by decide +kernel
theorem dX9_wordHere_5 : decode cX9_wordHere 5 = .ok (.ldc 142, 2) := by decide +kernel
theorem dX9_wordHere_7 : decode cX9_wordHere 7 = .ok (.invokevirtual 144, 3) := by decide +kernel
theorem dX9_wordHere_10 : decode cX9_wordHere 10 = .ok (.if_icmp .ge 113, 3) := by decide +kernel
theorem dX9_wordHere_13 : decode cX9_wordHere 13 = .ok (.iconst 0, 1) := by decide +kernel
theorem dX9_wordHere_14 : decode cX9_wordHere 14 = .ok (.istore_n 3, 1) := by decide +kernel
theorem dX9_wordHere_15 : decode cX9_wordHere 15 = .ok (.ldc 142, 2) := by decide +kernel
theorem dX9_wordHere_17 : decode cX9_wordHere 17 = .ok (.iload_n 2, 1) := by decide +kernel
theorem dX9_wordHere_18 : decode cX9_wordHere 18 = .ok (.iload_n 3, 1) := by decide +kernel
theorem dX9_wordHere_19 : decode cX9_wordHere 19 = .ok (.iadd, 1) := by decide +kernel
theorem dX9_wordHere_20 : decode cX9_wordHere 20 = .ok (.invokevirtual 149, 3) := by decide +kernel
theorem dX9_wordHere_23 : decode cX9_wordHere 23 = .ok (.bipush 32, 2) := by decide +kernel
theorem dX9_wordHere_25 : decode cX9_wordHere 25 = .ok (.if_icmp .eq 44, 3) := by decide +kernel
theorem dX9_wordHere_28 : decode cX9_wordHere 28 = .ok (.aload_n 0, 1) := by decide +kernel
theorem dX9_wordHere_29 : decode cX9_wordHere 29 = .ok (.getfield 119, 3) := by decide +kernel
theorem dX9_wordHere_32 : decode cX9_wordHere 32 = .ok (.iload_n 3, 1) := by decide +kernel
theorem dX9_wordHere_33 : decode cX9_wordHere 33 = .ok (.iadd, 1) := by decide +kernel
theorem dX9_wordHere_34 : decode cX9_wordHere 34 = .ok (.aload_n 0, 1) := by decide +kernel
theorem dX9_wordHere_35 : decode cX9_wordHere 35 = .ok (.getfield 109, 3) := by decide +kernel
theorem dX9_wordHere_38 : decode cX9_wordHere 38 = .ok (.if_icmp .ge 31, 3) := by decide +kernel
theorem dX9_wordHere_41 : decode cX9_wordHere 41 = .ok (.aload_n 0, 1) := by decide +kernel
theorem dX9_wordHere_42 : decode cX9_wordHere 42 = .ok (.getfield 7, 3) := by decide +kernel
theorem dX9_wordHere_45 : decode cX9_wordHere 45 = .ok (.aload_n 0, 1) := by decide +kernel
theorem dX9_wordHere_46 : decode cX9_wordHere 46 = .ok (.getfield 119, 3) := by decide +kernel
theorem dX9_wordHere_49 : decode cX9_wordHere 49 = .ok (.iload_n 3, 1) := by decide +kernel
theorem dX9_wordHere_50 : decode cX9_wordHere 50 = .ok (.iadd, 1) := by decide +kernel
theorem dX9_wordHere_51 : decode cX9_wordHere 51 = .ok (.iaload, 1) := by decide +kernel
theorem dX9_wordHere_52 : decode cX9_wordHere 52 = .ok (.ldc 142, 2) := by decide +kernel
theorem dX9_wordHere_54 : decode cX9_wordHere 54 = .ok (.iload_n 2, 1) := by decide +kernel
theorem dX9_wordHere_55 : decode cX9_wordHere 55 = .ok (.iload_n 3, 1) := by decide +kernel
theorem dX9_wordHere_56 : decode cX9_wordHere 56 = .ok (.iadd, 1) := by decide +kernel
theorem dX9_wordHere_57 : decode cX9_wordHere 57 = .ok (.invokevirtual 149, 3) := by decide +kernel
theorem dX9_wordHere_60 : decode cX9_wordHere 60 = .ok (.if_icmp .ne 9, 3) := by decide +kernel
theorem dX9_wordHere_63 : decode cX9_wordHere 63 = .ok (.iinc 3 1, 3) := by decide +kernel
theorem dX9_wordHere_66 : decode cX9_wordHere 66 = .ok (.goto (-51), 3) := by decide +kernel
theorem dX9_wordHere_69 : decode cX9_wordHere 69 = .ok (.ldc 142, 2) := by decide +kernel
theorem dX9_wordHere_71 : decode cX9_wordHere 71 = .ok (.iload_n 2, 1) := by decide +kernel
theorem dX9_wordHere_72 : decode cX9_wordHere 72 = .ok (.iload_n 3, 1) := by decide +kernel
theorem dX9_wordHere_73 : decode cX9_wordHere 73 = .ok (.iadd, 1) := by decide +kernel
theorem dX9_wordHere_74 : decode cX9_wordHere 74 = .ok (.invokevirtual 149, 3) := by decide +kernel
theorem dX9_wordHere_77 : decode cX9_wordHere 77 = .ok (.bipush 32, 2) := by decide +kernel
theorem dX9_wordHere_79 : decode cX9_wordHere 79 = .ok (.if_icmp .ne 18, 3) := by decide +kernel
theorem dX9_wordHere_82 : decode cX9_wordHere 82 = .ok (.aload_n 0, 1) := by decide +kernel
theorem dX9_wordHere_83 : decode cX9_wordHere 83 = .ok (.getfield 119, 3) := by decide +kernel
theorem dX9_wordHere_86 : decode cX9_wordHere 86 = .ok (.iload_n 3, 1) := by decide +kernel
theorem dX9_wordHere_87 : decode cX9_wordHere 87 = .ok (.iadd, 1) := by decide +kernel
theorem dX9_wordHere_88 : decode cX9_wordHere 88 = .ok (.aload_n 0, 1) := by decide +kernel
theorem dX9_wordHere_89 : decode cX9_wordHere 89 = .ok (.getfield 109, 3) := by decide +kernel
theorem dX9_wordHere_92 : decode cX9_wordHere 92 = .ok (.if_icmp .ne 5, 3) := by decide +kernel
theorem dX9_wordHere_95 : decode cX9_wordHere 95 = .ok (.iload_n 1, 1) := by decide +kernel
theorem dX9_wordHere_96 : decode cX9_wordHere 96 = .ok (.ireturn, 1) := by decide +kernel
theorem dX9_wordHere_97 : decode cX9_wordHere 97 = .ok (.ldc 142, 2) := by decide +kernel
theorem dX9_wordHere_99 : decode cX9_wordHere 99 = .ok (.iload_n 2, 1) := by decide +kernel
theorem dX9_wordHere_100 : decode cX9_wordHere 100 = .ok (.invokevirtual 149, 3) := by decide +kernel
theorem dX9_wordHere_103 : decode cX9_wordHere 103 = .ok (.bipush 32, 2) := by decide +kernel
theorem dX9_wordHere_105 : decode cX9_wordHere 105 = .ok (.if_icmp .eq 9, 3) := by decide +kernel
theorem dX9_wordHere_108 : decode cX9_wordHere 108 = .ok (.iinc 2 1, 3) := by decide +kernel
theorem dX9_wordHere_111 : decode cX9_wordHere 111 = .ok (.goto (-14), 3) := by decide +kernel
theorem dX9_wordHere_114 : decode cX9_wordHere 114 = .ok (.iinc 2 1, 3) := by decide +kernel
theorem dX9_wordHere_117 : decode cX9_wordHere 117 = .ok (.iinc 1 1, 3) := by decide +kernel
theorem dX9_wordHere_120 : decode cX9_wordHere 120 = .ok (.goto (-116), 3) := by decide +kernel
theorem dX9_wordHere_123 : decode cX9_wordHere 123 = .ok (.iconst (-1), 1) := by decide +kernel
theorem dX9_wordHere_124 : decode cX9_wordHere 124 = .ok (.ireturn, 1) := by decide +kernel
theorem dX9_nameHere_0 : decode cX9_nameHere 0 = .ok (.aload_n 0, 1) := by decide +kernel
theorem dX9_nameHere_1 : decode cX9_nameHere 1 = .ok (.iconst 0, 1) := by decide +kernel
theorem dX9_nameHere_2 : decode cX9_nameHere 2 = .ok (.putfield 132, 3) := by decide +kernel
theorem dX9_nameHere_5 : decode cX9_nameHere 5 = .ok (.iconst 0, 1) := by decide +kernel
theorem dX9_nameHere_6 : decode cX9_nameHere 6 = .ok (.istore_n 1, 1) := by decide +kernel
theorem dX9_nameHere_7 : decode cX9_nameHere 7 = .ok (.iload_n 1, 1) := by decide +kernel
theorem dX9_nameHere_8 : decode cX9_nameHere 8 = .ok (.bipush 6, 2) := by decide +kernel
theorem dX9_nameHere_10 : decode cX9_nameHere 10 = .ok (.if_icmp .ge 53, 3) := by decide +kernel
theorem dX9_nameHere_13 : decode cX9_nameHere 13 = .ok (.aload_n 0, 1) := by decide +kernel
theorem dX9_nameHere_14 : decode cX9_nameHere 14 = .ok (.aload_n 0, 1) := by decide +kernel
theorem dX9_nameHere_15 : decode cX9_nameHere 15 = .ok (.getfield 132, 3) := by decide +kernel
theorem dX9_nameHere_18 : decode cX9_nameHere 18 = .ok (.iconst 5, 1) := by decide +kernel
theorem dX9_nameHere_19 : decode cX9_nameHere 19 = .ok (.ishl, 1) := by decide +kernel
theorem dX9_nameHere_20 : decode cX9_nameHere 20 = .ok (.aload_n 0, 1) := by decide +kernel
theorem dX9_nameHere_21 : decode cX9_nameHere 21 = .ok (.getfield 119, 3) := by decide +kernel
theorem dX9_nameHere_24 : decode cX9_nameHere 24 = .ok (.iload_n 1, 1) := by decide +kernel
theorem dX9_nameHere_25 : decode cX9_nameHere 25 = .ok (.iadd, 1) := by decide +kernel
theorem dX9_nameHere_26 : decode cX9_nameHere 26 = .ok (.aload_n 0, 1) := by decide +kernel
theorem dX9_nameHere_27 : decode cX9_nameHere 27 = .ok (.getfield 109, 3) := by decide +kernel
theorem dX9_nameHere_30 : decode cX9_nameHere 30 = .ok (.if_icmp .ge 22, 3) := by decide +kernel
theorem dX9_nameHere_33 : decode cX9_nameHere 33 = .ok (.aload_n 0, 1) := by decide +kernel
theorem dX9_nameHere_34 : decode cX9_nameHere 34 = .ok (.getfield 7, 3) := by decide +kernel
theorem dX9_nameHere_37 : decode cX9_nameHere 37 = .ok (.aload_n 0, 1) := by decide +kernel
theorem dX9_nameHere_38 : decode cX9_nameHere 38 = .ok (.getfield 119, 3) := by decide +kernel
theorem dX9_nameHere_41 : decode cX9_nameHere 41 = .ok (.iload_n 1, 1) := by decide +kernel
theorem dX9_nameHere_42 : decode cX9_nameHere 42 = .ok (.iadd, 1) := by decide +kernel
theorem dX9_nameHere_43 : decode cX9_nameHere 43 = .ok (.iaload, 1) := by decide +kernel
theorem dX9_nameHere_44 : decode cX9_nameHere 44 = .ok (.bipush 97, 2) := by decide +kernel
theorem dX9_nameHere_46 : decode cX9_nameHere 46 = .ok (.isub, 1) := by decide +kernel
theorem dX9_nameHere_47 : decode cX9_nameHere 47 = .ok (.iconst 1, 1) := by decide +kernel
theorem dX9_nameHere_48 : decode cX9_nameHere 48 = .ok (.iadd, 1) := by decide +kernel
theorem dX9_nameHere_49 : decode cX9_nameHere 49 = .ok (.goto 4, 3) := by decide +kernel
theorem dX9_nameHere_52 : decode cX9_nameHere 52 = .ok (.iconst 0, 1) := by decide +kernel
theorem dX9_nameHere_53 : decode cX9_nameHere 53 = .ok (.ior, 1) := by decide +kernel
theorem dX9_nameHere_54 : decode cX9_nameHere 54 = .ok (.putfield 132, 3) := by decide +kernel
theorem dX9_nameHere_57 : decode cX9_nameHere 57 = .ok (.iinc 1 1, 3) := by decide +kernel
theorem dX9_nameHere_60 : decode cX9_nameHere 60 = .ok (.goto (-53), 3) := by decide +kernel
theorem dX9_nameHere_63 : decode cX9_nameHere 63 = .ok (.return_, 1) := by decide +kernel
theorem dX9_wrong_0 : decode cX9_wrong 0 = .ok (.aload_n 0, 1) := by decide +kernel
theorem dX9_wrong_1 : decode cX9_wrong 1 = .ok (.getfield 153, 3) := by decide +kernel
theorem dX9_wrong_4 : decode cX9_wrong 4 = .ok (.ifCond .eq 4, 3) := by decide +kernel
theorem dX9_wrong_7 : decode cX9_wrong 7 = .ok (.return_, 1) := by decide +kernel
theorem dX9_wrong_8 : decode cX9_wrong 8 = .ok (.aload_n 0, 1) := by decide +kernel
theorem dX9_wrong_9 : decode cX9_wrong 9 = .ok (.iload_n 1, 1) := by decide +kernel
theorem dX9_wrong_10 : decode cX9_wrong 10 = .ok (.putfield 153, 3) := by decide +kernel
theorem dX9_wrong_13 : decode cX9_wrong 13 = .ok (.aload_n 0, 1) := by decide +kernel
theorem dX9_wrong_14 : decode cX9_wrong 14 = .ok (.aload_n 0, 1) := by decide +kernel
theorem dX9_wrong_15 : decode cX9_wrong 15 = .ok (.getfield 119, 3) := by decide +kernel
theorem dX9_wrong_18 : decode cX9_wrong 18 = .ok (.putfield 156, 3) := by decide +kernel
theorem dX9_wrong_21 : decode cX9_wrong 21 = .ok (.return_, 1) := by decide +kernel
theorem dX9_goOn_0 : decode cX9_goOn 0 = .ok (.aload_n 0, 1) := by decide +kernel
theorem dX9_goOn_1 : decode cX9_goOn 1 = .ok (.getfield 153, 3) := by decide +kernel
theorem dX9_goOn_4 : decode cX9_goOn 4 = .ok (.ifCond .ne 7, 3) := by decide +kernel
theorem dX9_goOn_7 : decode cX9_goOn 7 = .ok (.aload_n 0, 1) := by decide +kernel
theorem dX9_goOn_8 : decode cX9_goOn 8 = .ok (.invokevirtual 159, 3) := by decide +kernel
theorem dX9_goOn_11 : decode cX9_goOn 11 = .ok (.return_, 1) := by decide +kernel
theorem dX9_numeral_0 : decode cX9_numeral 0 = .ok (.aload_n 0, 1) := by decide +kernel
theorem dX9_numeral_1 : decode cX9_numeral 1 = .ok (.getfield 153, 3) := by decide +kernel
theorem dX9_numeral_4 : decode cX9_numeral 4 = .ok (.ifCond .eq 5, 3) := by decide +kernel
theorem dX9_numeral_7 : decode cX9_numeral 7 = .ok (.iload_n 1, 1) := by decide +kernel
theorem dX9_numeral_8 : decode cX9_numeral 8 = .ok (.ireturn, 1) := by decide +kernel
theorem dX9_numeral_9 : decode cX9_numeral 9 = .ok (.aload_n 0, 1) := by decide +kernel
theorem dX9_numeral_10 : decode cX9_numeral 10 = .ok (.getfield 122, 3) := by decide +kernel
theorem dX9_numeral_13 : decode cX9_numeral 13 = .ok (.iconst 2, 1) := by decide +kernel
theorem dX9_numeral_14 : decode cX9_numeral 14 = .ok (.if_icmp .eq 11, 3) := by decide +kernel
theorem dX9_numeral_17 : decode cX9_numeral 17 = .ok (.aload_n 0, 1) := by decide +kernel
theorem dX9_numeral_18 : decode cX9_numeral 18 = .ok (.iconst 1, 1) := by decide +kernel
theorem dX9_numeral_19 : decode cX9_numeral 19 = .ok (.invokevirtual 162, 3) := by decide +kernel
theorem dX9_numeral_22 : decode cX9_numeral 22 = .ok (.goto 24, 3) := by decide +kernel
theorem dX9_numeral_25 : decode cX9_numeral 25 = .ok (.aload_n 0, 1) := by decide +kernel
theorem dX9_numeral_26 : decode cX9_numeral 26 = .ok (.getfield 132, 3) := by decide +kernel
theorem dX9_numeral_29 : decode cX9_numeral 29 = .ok (.iload_n 1, 1) := by decide +kernel
theorem dX9_numeral_30 : decode cX9_numeral 30 = .ok (.if_icmp .lt 11, 3) := by decide +kernel
theorem dX9_numeral_33 : decode cX9_numeral 33 = .ok (.aload_n 0, 1) := by decide +kernel
theorem dX9_numeral_34 : decode cX9_numeral 34 = .ok (.getfield 132, 3) := by decide +kernel
theorem dX9_numeral_37 : decode cX9_numeral 37 = .ok (.iload_n 2, 1) := by decide +kernel
theorem dX9_numeral_38 : decode cX9_numeral 38 = .ok (.if_icmp .le 8, 3) := by decide +kernel
theorem dX9_numeral_41 : decode cX9_numeral 41 = .ok (.aload_n 0, 1) := by decide +kernel
theorem dX9_numeral_42 : decode cX9_numeral 42 = .ok (.iconst 2, 1) := by decide +kernel
theorem dX9_numeral_43 : decode cX9_numeral 43 = .ok (.invokevirtual 162, 3) := by decide +kernel
theorem dX9_numeral_46 : decode cX9_numeral 46 = .ok (.aload_n 0, 1) := by decide +kernel
theorem dX9_numeral_47 : decode cX9_numeral 47 = .ok (.getfield 153, 3) := by decide +kernel
theorem dX9_numeral_50 : decode cX9_numeral 50 = .ok (.ifCond .ne 10, 3) := by decide +kernel
theorem dX9_numeral_53 : decode cX9_numeral 53 = .ok (.aload_n 0, 1) := by decide +kernel
theorem dX9_numeral_54 : decode cX9_numeral 54 = .ok (.getfield 132, 3) := by decide +kernel
theorem dX9_numeral_57 : decode cX9_numeral 57 = .ok (.goto 4, 3) := by decide +kernel
theorem dX9_numeral_60 : decode cX9_numeral 60 = .ok (.iload_n 1, 1) := by decide +kernel
theorem dX9_numeral_61 : decode cX9_numeral 61 = .ok (.istore_n 3, 1) := by decide +kernel
theorem dX9_numeral_62 : decode cX9_numeral 62 = .ok (.aload_n 0, 1) := by decide +kernel
theorem dX9_numeral_63 : decode cX9_numeral 63 = .ok (.invokevirtual 166, 3) := by decide +kernel
theorem dX9_numeral_66 : decode cX9_numeral 66 = .ok (.iload_n 3, 1) := by decide +kernel
theorem dX9_numeral_67 : decode cX9_numeral 67 = .ok (.ireturn, 1) := by decide +kernel
theorem dX9_reading_0 : decode cX9_reading 0 = .ok (.aload_n 0, 1) := by decide +kernel
theorem dX9_reading_1 : decode cX9_reading 1 = .ok (.getfield 13, 3) := by decide +kernel
theorem dX9_reading_4 : decode cX9_reading 4 = .ok (.bipush 6, 2) := by decide +kernel
theorem dX9_reading_6 : decode cX9_reading 6 = .ok (.iload_n 1, 1) := by decide +kernel
theorem dX9_reading_7 : decode cX9_reading 7 = .ok (.iadd, 1) := by decide +kernel
theorem dX9_reading_8 : decode cX9_reading 8 = .ok (.iaload, 1) := by decide +kernel
theorem dX9_reading_9 : decode cX9_reading 9 = .ok (.ireturn, 1) := by decide +kernel
theorem dX9_reads_0 : decode cX9_reads 0 = .ok (.aload_n 0, 1) := by decide +kernel
theorem dX9_reads_1 : decode cX9_reads 1 = .ok (.getfield 13, 3) := by decide +kernel
theorem dX9_reads_4 : decode cX9_reads 4 = .ok (.bipush 6, 2) := by decide +kernel
theorem dX9_reads_6 : decode cX9_reads 6 = .ok (.iload_n 1, 1) := by decide +kernel
theorem dX9_reads_7 : decode cX9_reads 7 = .ok (.iadd, 1) := by decide +kernel
theorem dX9_reads_8 : decode cX9_reads 8 = .ok (.iload_n 2, 1) := by decide +kernel
theorem dX9_reads_9 : decode cX9_reads 9 = .ok (.iastore, 1) := by decide +kernel
theorem dX9_reads_10 : decode cX9_reads 10 = .ok (.return_, 1) := by decide +kernel
theorem dX9_readOnce_0 : decode cX9_readOnce 0 = .ok (.aload_n 0, 1) := by decide +kernel
theorem dX9_readOnce_1 : decode cX9_readOnce 1 = .ok (.getfield 16, 3) := by decide +kernel
theorem dX9_readOnce_4 : decode cX9_readOnce 4 = .ok (.iload_n 1, 1) := by decide +kernel
theorem dX9_readOnce_5 : decode cX9_readOnce 5 = .ok (.baload, 1) := by decide +kernel
theorem dX9_readOnce_6 : decode cX9_readOnce 6 = .ok (.ifCond .eq 8, 3) := by decide +kernel
theorem dX9_readOnce_9 : decode cX9_readOnce 9 = .ok (.aload_n 0, 1) := by decide +kernel
theorem dX9_readOnce_10 : decode cX9_readOnce 10 = .ok (.iconst 3, 1) := by decide +kernel
theorem dX9_readOnce_11 : decode cX9_readOnce 11 = .ok (.invokevirtual 162, 3) := by decide +kernel
theorem dX9_readOnce_14 : decode cX9_readOnce 14 = .ok (.aload_n 0, 1) := by decide +kernel
theorem dX9_readOnce_15 : decode cX9_readOnce 15 = .ok (.getfield 16, 3) := by decide +kernel
theorem dX9_readOnce_18 : decode cX9_readOnce 18 = .ok (.iload_n 1, 1) := by decide +kernel
theorem dX9_readOnce_19 : decode cX9_readOnce 19 = .ok (.iconst 1, 1) := by decide +kernel
theorem dX9_readOnce_20 : decode cX9_readOnce 20 = .ok (.bastore, 1) := by decide +kernel
theorem dX9_readOnce_21 : decode cX9_readOnce 21 = .ok (.aload_n 0, 1) := by decide +kernel
theorem dX9_readOnce_22 : decode cX9_readOnce 22 = .ok (.invokevirtual 166, 3) := by decide +kernel
theorem dX9_readOnce_25 : decode cX9_readOnce 25 = .ok (.aload_n 0, 1) := by decide +kernel
theorem dX9_readOnce_26 : decode cX9_readOnce 26 = .ok (.iload_n 2, 1) := by decide +kernel
theorem dX9_readOnce_27 : decode cX9_readOnce 27 = .ok (.aload_n 0, 1) := by decide +kernel
theorem dX9_readOnce_28 : decode cX9_readOnce 28 = .ok (.iload_n 3, 1) := by decide +kernel
theorem dX9_readOnce_29 : decode cX9_readOnce 29 = .ok (.iload 4, 2) := by decide +kernel
theorem dX9_readOnce_31 : decode cX9_readOnce 31 = .ok (.invokevirtual 169, 3) := by decide +kernel
theorem dX9_readOnce_34 : decode cX9_readOnce 34 = .ok (.invokevirtual 173, 3) := by decide +kernel
theorem dX9_readOnce_37 : decode cX9_readOnce 37 = .ok (.return_, 1) := by decide +kernel
theorem dX9_foundIn_0 : decode cX9_foundIn 0 = .ok (.iconst 0, 1) := by decide +kernel
theorem dX9_foundIn_1 : decode cX9_foundIn 1 = .ok (.istore 4, 2) := by decide +kernel
theorem dX9_foundIn_3 : decode cX9_foundIn 3 = .ok (.iload 4, 2) := by decide +kernel
theorem dX9_foundIn_5 : decode cX9_foundIn 5 = .ok (.iload_n 2, 1) := by decide +kernel
theorem dX9_foundIn_6 : decode cX9_foundIn 6 = .ok (.if_icmp .ge 22, 3) := by decide +kernel
theorem dX9_foundIn_9 : decode cX9_foundIn 9 = .ok (.aload_n 0, 1) := by decide +kernel
theorem dX9_foundIn_10 : decode cX9_foundIn 10 = .ok (.iload_n 1, 1) := by decide +kernel
theorem dX9_foundIn_11 : decode cX9_foundIn 11 = .ok (.iload 4, 2) := by decide +kernel
theorem dX9_foundIn_13 : decode cX9_foundIn 13 = .ok (.iadd, 1) := by decide +kernel
theorem dX9_foundIn_14 : decode cX9_foundIn 14 = .ok (.iaload, 1) := by decide +kernel
theorem dX9_foundIn_15 : decode cX9_foundIn 15 = .ok (.iload_n 3, 1) := by decide +kernel
theorem dX9_foundIn_16 : decode cX9_foundIn 16 = .ok (.if_icmp .ne 6, 3) := by decide +kernel
theorem dX9_foundIn_19 : decode cX9_foundIn 19 = .ok (.iload 4, 2) := by decide +kernel
theorem dX9_foundIn_21 : decode cX9_foundIn 21 = .ok (.ireturn, 1) := by decide +kernel
theorem dX9_foundIn_22 : decode cX9_foundIn 22 = .ok (.iinc 4 1, 3) := by decide +kernel
theorem dX9_foundIn_25 : decode cX9_foundIn 25 = .ok (.goto (-22), 3) := by decide +kernel
theorem dX9_foundIn_28 : decode cX9_foundIn 28 = .ok (.iconst (-1), 1) := by decide +kernel
theorem dX9_foundIn_29 : decode cX9_foundIn 29 = .ok (.ireturn, 1) := by decide +kernel
theorem dX9_newName_0 : decode cX9_newName 0 = .ok (.aload_n 0, 1) := by decide +kernel
theorem dX9_newName_1 : decode cX9_newName 1 = .ok (.invokevirtual 166, 3) := by decide +kernel
theorem dX9_newName_4 : decode cX9_newName 4 = .ok (.aload_n 0, 1) := by decide +kernel
theorem dX9_newName_5 : decode cX9_newName 5 = .ok (.getfield 153, 3) := by decide +kernel
theorem dX9_newName_8 : decode cX9_newName 8 = .ok (.ifCond .eq 4, 3) := by decide +kernel
theorem dX9_newName_11 : decode cX9_newName 11 = .ok (.return_, 1) := by decide +kernel
theorem dX9_newName_12 : decode cX9_newName 12 = .ok (.aload_n 0, 1) := by decide +kernel
theorem dX9_newName_13 : decode cX9_newName 13 = .ok (.getfield 122, 3) := by decide +kernel
theorem dX9_newName_16 : decode cX9_newName 16 = .ok (.iconst 1, 1) := by decide +kernel
theorem dX9_newName_17 : decode cX9_newName 17 = .ok (.if_icmp .eq 11, 3) := by decide +kernel
theorem dX9_newName_20 : decode cX9_newName 20 = .ok (.aload_n 0, 1) := by decide +kernel
theorem dX9_newName_21 : decode cX9_newName 21 = .ok (.iconst 1, 1) := by decide +kernel
theorem dX9_newName_22 : decode cX9_newName 22 = .ok (.invokevirtual 162, 3) := by decide +kernel
theorem dX9_newName_25 : decode cX9_newName 25 = .ok (.goto 22, 3) := by decide +kernel
theorem dX9_newName_28 : decode cX9_newName 28 = .ok (.aload_n 1, 1) := by decide +kernel
theorem dX9_newName_29 : decode cX9_newName 29 = .ok (.iload_n 2, 1) := by decide +kernel
theorem dX9_newName_30 : decode cX9_newName 30 = .ok (.iload_n 3, 1) := by decide +kernel
theorem dX9_newName_31 : decode cX9_newName 31 = .ok (.aload_n 0, 1) := by decide +kernel
theorem dX9_newName_32 : decode cX9_newName 32 = .ok (.getfield 132, 3) := by decide +kernel
theorem dX9_newName_35 : decode cX9_newName 35 = .ok (.invokestatic 177, 3) := by decide +kernel
theorem dX9_newName_38 : decode cX9_newName 38 = .ok (.iconst (-1), 1) := by decide +kernel
theorem dX9_newName_39 : decode cX9_newName 39 = .ok (.if_icmp .eq 8, 3) := by decide +kernel
theorem dX9_newName_42 : decode cX9_newName 42 = .ok (.aload_n 0, 1) := by decide +kernel
theorem dX9_newName_43 : decode cX9_newName 43 = .ok (.iconst 3, 1) := by decide +kernel
theorem dX9_newName_44 : decode cX9_newName 44 = .ok (.invokevirtual 162, 3) := by decide +kernel
theorem dX9_newName_47 : decode cX9_newName 47 = .ok (.aload_n 0, 1) := by decide +kernel
theorem dX9_newName_48 : decode cX9_newName 48 = .ok (.getfield 153, 3) := by decide +kernel
theorem dX9_newName_51 : decode cX9_newName 51 = .ok (.ifCond .eq 4, 3) := by decide +kernel
theorem dX9_newName_54 : decode cX9_newName 54 = .ok (.return_, 1) := by decide +kernel
theorem dX9_newName_55 : decode cX9_newName 55 = .ok (.aload_n 1, 1) := by decide +kernel
theorem dX9_newName_56 : decode cX9_newName 56 = .ok (.iload_n 2, 1) := by decide +kernel
theorem dX9_newName_57 : decode cX9_newName 57 = .ok (.iload_n 3, 1) := by decide +kernel
theorem dX9_newName_58 : decode cX9_newName 58 = .ok (.iadd, 1) := by decide +kernel
theorem dX9_newName_59 : decode cX9_newName 59 = .ok (.aload_n 0, 1) := by decide +kernel
theorem dX9_newName_60 : decode cX9_newName 60 = .ok (.getfield 132, 3) := by decide +kernel
theorem dX9_newName_63 : decode cX9_newName 63 = .ok (.iastore, 1) := by decide +kernel
theorem dX9_newName_64 : decode cX9_newName 64 = .ok (.aload_n 0, 1) := by decide +kernel
theorem dX9_newName_65 : decode cX9_newName 65 = .ok (.invokevirtual 159, 3) := by decide +kernel
theorem dX9_newName_68 : decode cX9_newName 68 = .ok (.return_, 1) := by decide +kernel
theorem dX9_oldName_0 : decode cX9_oldName 0 = .ok (.aload_n 0, 1) := by decide +kernel
theorem dX9_oldName_1 : decode cX9_oldName 1 = .ok (.getfield 153, 3) := by decide +kernel
theorem dX9_oldName_4 : decode cX9_oldName 4 = .ok (.ifCond .eq 5, 3) := by decide +kernel
theorem dX9_oldName_7 : decode cX9_oldName 7 = .ok (.iconst 0, 1) := by decide +kernel
theorem dX9_oldName_8 : decode cX9_oldName 8 = .ok (.ireturn, 1) := by decide +kernel
theorem dX9_oldName_9 : decode cX9_oldName 9 = .ok (.aload_n 0, 1) := by decide +kernel
theorem dX9_oldName_10 : decode cX9_oldName 10 = .ok (.getfield 122, 3) := by decide +kernel
theorem dX9_oldName_13 : decode cX9_oldName 13 = .ok (.iconst 1, 1) := by decide +kernel
theorem dX9_oldName_14 : decode cX9_oldName 14 = .ok (.if_icmp .eq 8, 3) := by decide +kernel
theorem dX9_oldName_17 : decode cX9_oldName 17 = .ok (.aload_n 0, 1) := by decide +kernel
theorem dX9_oldName_18 : decode cX9_oldName 18 = .ok (.iconst 1, 1) := by decide +kernel
theorem dX9_oldName_19 : decode cX9_oldName 19 = .ok (.invokevirtual 162, 3) := by decide +kernel
theorem dX9_oldName_22 : decode cX9_oldName 22 = .ok (.aload_n 0, 1) := by decide +kernel
theorem dX9_oldName_23 : decode cX9_oldName 23 = .ok (.getfield 153, 3) := by decide +kernel
theorem dX9_oldName_26 : decode cX9_oldName 26 = .ok (.ifCond .ne 16, 3) := by decide +kernel
theorem dX9_oldName_29 : decode cX9_oldName 29 = .ok (.aload_n 1, 1) := by decide +kernel
theorem dX9_oldName_30 : decode cX9_oldName 30 = .ok (.iload_n 2, 1) := by decide +kernel
theorem dX9_oldName_31 : decode cX9_oldName 31 = .ok (.iload_n 3, 1) := by decide +kernel
theorem dX9_oldName_32 : decode cX9_oldName 32 = .ok (.aload_n 0, 1) := by decide +kernel
theorem dX9_oldName_33 : decode cX9_oldName 33 = .ok (.getfield 132, 3) := by decide +kernel
theorem dX9_oldName_36 : decode cX9_oldName 36 = .ok (.invokestatic 177, 3) := by decide +kernel
theorem dX9_oldName_39 : decode cX9_oldName 39 = .ok (.goto 4, 3) := by decide +kernel
theorem dX9_oldName_42 : decode cX9_oldName 42 = .ok (.iconst 0, 1) := by decide +kernel
theorem dX9_oldName_43 : decode cX9_oldName 43 = .ok (.istore 4, 2) := by decide +kernel
theorem dX9_oldName_45 : decode cX9_oldName 45 = .ok (.iload 4, 2) := by decide +kernel
theorem dX9_oldName_47 : decode cX9_oldName 47 = .ok (.iconst (-1), 1) := by decide +kernel
theorem dX9_oldName_48 : decode cX9_oldName 48 = .ok (.if_icmp .ne 8, 3) := by decide +kernel
theorem dX9_oldName_51 : decode cX9_oldName 51 = .ok (.aload_n 0, 1) := by decide +kernel
theorem dX9_oldName_52 : decode cX9_oldName 52 = .ok (.iconst 4, 1) := by decide +kernel
theorem dX9_oldName_53 : decode cX9_oldName 53 = .ok (.invokevirtual 162, 3) := by decide +kernel
theorem dX9_oldName_56 : decode cX9_oldName 56 = .ok (.iload 4, 2) := by decide +kernel
theorem dX9_oldName_58 : decode cX9_oldName 58 = .ok (.iconst (-1), 1) := by decide +kernel
theorem dX9_oldName_59 : decode cX9_oldName 59 = .ok (.if_icmp .ne 7, 3) := by decide +kernel
theorem dX9_oldName_62 : decode cX9_oldName 62 = .ok (.iconst 0, 1) := by decide +kernel
theorem dX9_oldName_63 : decode cX9_oldName 63 = .ok (.goto 5, 3) := by decide +kernel
theorem dX9_oldName_66 : decode cX9_oldName 66 = .ok (.iload 4, 2) := by decide +kernel
theorem dX9_oldName_68 : decode cX9_oldName 68 = .ok (.ireturn, 1) := by decide +kernel
theorem dX9_readPhase_0 : decode cX9_readPhase 0 = .ok (.iconst 4, 1) := by decide +kernel
theorem dX9_readPhase_1 : decode cX9_readPhase 1 = .ok (.aload_n 0, 1) := by decide +kernel
theorem dX9_readPhase_2 : decode cX9_readPhase 2 = .ok (.iconst 1, 1) := by decide +kernel
theorem dX9_readPhase_3 : decode cX9_readPhase 3 = .ok (.invokevirtual 181, 3) := by decide +kernel
theorem dX9_readPhase_6 : decode cX9_readPhase 6 = .ok (.iadd, 1) := by decide +kernel
theorem dX9_readPhase_7 : decode cX9_readPhase 7 = .ok (.istore_n 1, 1) := by decide +kernel
theorem dX9_readPhase_8 : decode cX9_readPhase 8 = .ok (.iload_n 1, 1) := by decide +kernel
theorem dX9_readPhase_9 : decode cX9_readPhase 9 = .ok (.bipush 8, 2) := by decide +kernel
theorem dX9_readPhase_11 : decode cX9_readPhase 11 = .ok (.if_icmp .ne 8, 3) := by decide +kernel
theorem dX9_readPhase_14 : decode cX9_readPhase 14 = .ok (.aload_n 0, 1) := by decide +kernel
theorem dX9_readPhase_15 : decode cX9_readPhase 15 = .ok (.iconst 2, 1) := by decide +kernel
theorem dX9_readPhase_16 : decode cX9_readPhase 16 = .ok (.invokevirtual 162, 3) := by decide +kernel
theorem dX9_readPhase_19 : decode cX9_readPhase 19 = .ok (.aload_n 0, 1) := by decide +kernel
theorem dX9_readPhase_20 : decode cX9_readPhase 20 = .ok (.aload_n 0, 1) := by decide +kernel
theorem dX9_readPhase_21 : decode cX9_readPhase 21 = .ok (.getfield 20, 3) := by decide +kernel
theorem dX9_readPhase_24 : decode cX9_readPhase 24 = .ok (.iconst 4, 1) := by decide +kernel
theorem dX9_readPhase_25 : decode cX9_readPhase 25 = .ok (.aload_n 0, 1) := by decide +kernel
theorem dX9_readPhase_26 : decode cX9_readPhase 26 = .ok (.iconst 1, 1) := by decide +kernel
theorem dX9_readPhase_27 : decode cX9_readPhase 27 = .ok (.invokevirtual 181, 3) := by decide +kernel
theorem dX9_readPhase_30 : decode cX9_readPhase 30 = .ok (.invokevirtual 185, 3) := by decide +kernel
theorem dX9_readPhase_33 : decode cX9_readPhase 33 = .ok (.aload_n 0, 1) := by decide +kernel
theorem dX9_readPhase_34 : decode cX9_readPhase 34 = .ok (.iconst 0, 1) := by decide +kernel
theorem dX9_readPhase_35 : decode cX9_readPhase 35 = .ok (.bipush 63, 2) := by decide +kernel
theorem dX9_readPhase_37 : decode cX9_readPhase 37 = .ok (.invokevirtual 169, 3) := by decide +kernel
theorem dX9_readPhase_40 : decode cX9_readPhase 40 = .ok (.istore_n 2, 1) := by decide +kernel
theorem dX9_readPhase_41 : decode cX9_readPhase 41 = .ok (.aload_n 0, 1) := by decide +kernel
theorem dX9_readPhase_42 : decode cX9_readPhase 42 = .ok (.iconst 1, 1) := by decide +kernel
theorem dX9_readPhase_43 : decode cX9_readPhase 43 = .ok (.bipush 63, 2) := by decide +kernel
theorem dX9_readPhase_45 : decode cX9_readPhase 45 = .ok (.invokevirtual 169, 3) := by decide +kernel
theorem dX9_readPhase_48 : decode cX9_readPhase 48 = .ok (.istore_n 3, 1) := by decide +kernel
theorem dX9_readPhase_49 : decode cX9_readPhase 49 = .ok (.aload_n 0, 1) := by decide +kernel
theorem dX9_readPhase_50 : decode cX9_readPhase 50 = .ok (.getfield 153, 3) := by decide +kernel
theorem dX9_readPhase_53 : decode cX9_readPhase 53 = .ok (.ifCond .eq 4, 3) := by decide +kernel
theorem dX9_readPhase_56 : decode cX9_readPhase 56 = .ok (.return_, 1) := by decide +kernel
theorem dX9_readPhase_57 : decode cX9_readPhase 57 = .ok (.aload_n 0, 1) := by decide +kernel
theorem dX9_readPhase_58 : decode cX9_readPhase 58 = .ok (.getfield 23, 3) := by decide +kernel
theorem dX9_readPhase_61 : decode cX9_readPhase 61 = .ok (.iload_n 1, 1) := by decide +kernel
theorem dX9_readPhase_62 : decode cX9_readPhase 62 = .ok (.iload_n 2, 1) := by decide +kernel
theorem dX9_readPhase_63 : decode cX9_readPhase 63 = .ok (.iastore, 1) := by decide +kernel
theorem dX9_readPhase_64 : decode cX9_readPhase 64 = .ok (.aload_n 0, 1) := by decide +kernel
theorem dX9_readPhase_65 : decode cX9_readPhase 65 = .ok (.getfield 26, 3) := by decide +kernel
theorem dX9_readPhase_68 : decode cX9_readPhase 68 = .ok (.iload_n 1, 1) := by decide +kernel
theorem dX9_readPhase_69 : decode cX9_readPhase 69 = .ok (.iload_n 3, 1) := by decide +kernel
theorem dX9_readPhase_70 : decode cX9_readPhase 70 = .ok (.iastore, 1) := by decide +kernel
theorem dX9_readPhase_71 : decode cX9_readPhase 71 = .ok (.aload_n 0, 1) := by decide +kernel
theorem dX9_readPhase_72 : decode cX9_readPhase 72 = .ok (.iconst 1, 1) := by decide +kernel
theorem dX9_readPhase_73 : decode cX9_readPhase 73 = .ok (.aload_n 0, 1) := by decide +kernel
theorem dX9_readPhase_74 : decode cX9_readPhase 74 = .ok (.iconst 1, 1) := by decide +kernel
theorem dX9_readPhase_75 : decode cX9_readPhase 75 = .ok (.invokevirtual 181, 3) := by decide +kernel
theorem dX9_readPhase_78 : decode cX9_readPhase 78 = .ok (.iconst 1, 1) := by decide +kernel
theorem dX9_readPhase_79 : decode cX9_readPhase 79 = .ok (.iadd, 1) := by decide +kernel
theorem dX9_readPhase_80 : decode cX9_readPhase 80 = .ok (.invokevirtual 173, 3) := by decide +kernel
theorem dX9_readPhase_83 : decode cX9_readPhase 83 = .ok (.return_, 1) := by decide +kernel
theorem dX9_readCell_0 : decode cX9_readCell 0 = .ok (.bipush 10, 2) := by decide +kernel
theorem dX9_readCell_2 : decode cX9_readCell 2 = .ok (.aload_n 0, 1) := by decide +kernel
theorem dX9_readCell_3 : decode cX9_readCell 3 = .ok (.iconst 2, 1) := by decide +kernel
theorem dX9_readCell_4 : decode cX9_readCell 4 = .ok (.invokevirtual 181, 3) := by decide +kernel
theorem dX9_readCell_7 : decode cX9_readCell 7 = .ok (.iadd, 1) := by decide +kernel
theorem dX9_readCell_8 : decode cX9_readCell 8 = .ok (.istore_n 2, 1) := by decide +kernel
theorem dX9_readCell_9 : decode cX9_readCell 9 = .ok (.iload_n 2, 1) := by decide +kernel
theorem dX9_readCell_10 : decode cX9_readCell 10 = .ok (.bipush 20, 2) := by decide +kernel
theorem dX9_readCell_12 : decode cX9_readCell 12 = .ok (.if_icmp .ne 8, 3) := by decide +kernel
theorem dX9_readCell_15 : decode cX9_readCell 15 = .ok (.aload_n 0, 1) := by decide +kernel
theorem dX9_readCell_16 : decode cX9_readCell 16 = .ok (.iconst 2, 1) := by decide +kernel
theorem dX9_readCell_17 : decode cX9_readCell 17 = .ok (.invokevirtual 162, 3) := by decide +kernel
theorem dX9_readCell_20 : decode cX9_readCell 20 = .ok (.aload_n 0, 1) := by decide +kernel
theorem dX9_readCell_21 : decode cX9_readCell 21 = .ok (.aload_n 0, 1) := by decide +kernel
theorem dX9_readCell_22 : decode cX9_readCell 22 = .ok (.getfield 29, 3) := by decide +kernel
theorem dX9_readCell_25 : decode cX9_readCell 25 = .ok (.bipush 10, 2) := by decide +kernel
theorem dX9_readCell_27 : decode cX9_readCell 27 = .ok (.aload_n 0, 1) := by decide +kernel
theorem dX9_readCell_28 : decode cX9_readCell 28 = .ok (.iconst 2, 1) := by decide +kernel
theorem dX9_readCell_29 : decode cX9_readCell 29 = .ok (.invokevirtual 181, 3) := by decide +kernel
theorem dX9_readCell_32 : decode cX9_readCell 32 = .ok (.invokevirtual 185, 3) := by decide +kernel
theorem dX9_readCell_35 : decode cX9_readCell 35 = .ok (.aload_n 0, 1) := by decide +kernel
theorem dX9_readCell_36 : decode cX9_readCell 36 = .ok (.aload_n 0, 1) := by decide +kernel
theorem dX9_readCell_37 : decode cX9_readCell 37 = .ok (.getfield 20, 3) := by decide +kernel
theorem dX9_readCell_40 : decode cX9_readCell 40 = .ok (.iconst 4, 1) := by decide +kernel
theorem dX9_readCell_41 : decode cX9_readCell 41 = .ok (.aload_n 0, 1) := by decide +kernel
theorem dX9_readCell_42 : decode cX9_readCell 42 = .ok (.iconst 1, 1) := by decide +kernel
theorem dX9_readCell_43 : decode cX9_readCell 43 = .ok (.invokevirtual 181, 3) := by decide +kernel
theorem dX9_readCell_46 : decode cX9_readCell 46 = .ok (.invokevirtual 189, 3) := by decide +kernel
theorem dX9_readCell_49 : decode cX9_readCell 49 = .ok (.istore_n 3, 1) := by decide +kernel
theorem dX9_readCell_50 : decode cX9_readCell 50 = .ok (.aload_n 0, 1) := by decide +kernel
theorem dX9_readCell_51 : decode cX9_readCell 51 = .ok (.invokevirtual 166, 3) := by decide +kernel
theorem dX9_readCell_54 : decode cX9_readCell 54 = .ok (.aload_n 0, 1) := by decide +kernel
theorem dX9_readCell_55 : decode cX9_readCell 55 = .ok (.iconst 0, 1) := by decide +kernel
theorem dX9_readCell_56 : decode cX9_readCell 56 = .ok (.bipush 99, 2) := by decide +kernel
theorem dX9_readCell_58 : decode cX9_readCell 58 = .ok (.invokevirtual 169, 3) := by decide +kernel
theorem dX9_readCell_61 : decode cX9_readCell 61 = .ok (.istore 4, 2) := by decide +kernel
theorem dX9_readCell_63 : decode cX9_readCell 63 = .ok (.aload_n 0, 1) := by decide +kernel
theorem dX9_readCell_64 : decode cX9_readCell 64 = .ok (.iconst 0, 1) := by decide +kernel
theorem dX9_readCell_65 : decode cX9_readCell 65 = .ok (.bipush 99, 2) := by decide +kernel
theorem dX9_readCell_67 : decode cX9_readCell 67 = .ok (.invokevirtual 169, 3) := by decide +kernel
theorem dX9_readCell_70 : decode cX9_readCell 70 = .ok (.istore 5, 2) := by decide +kernel
theorem dX9_readCell_72 : decode cX9_readCell 72 = .ok (.aload_n 0, 1) := by decide +kernel
theorem dX9_readCell_73 : decode cX9_readCell 73 = .ok (.iconst 0, 1) := by decide +kernel
theorem dX9_readCell_74 : decode cX9_readCell 74 = .ok (.bipush 99, 2) := by decide +kernel
theorem dX9_readCell_76 : decode cX9_readCell 76 = .ok (.invokevirtual 169, 3) := by decide +kernel
theorem dX9_readCell_79 : decode cX9_readCell 79 = .ok (.istore 6, 2) := by decide +kernel
theorem dX9_readCell_81 : decode cX9_readCell 81 = .ok (.aload_n 0, 1) := by decide +kernel
theorem dX9_readCell_82 : decode cX9_readCell 82 = .ok (.getfield 153, 3) := by decide +kernel
theorem dX9_readCell_85 : decode cX9_readCell 85 = .ok (.ifCond .eq 4, 3) := by decide +kernel
theorem dX9_readCell_88 : decode cX9_readCell 88 = .ok (.return_, 1) := by decide +kernel
theorem dX9_readCell_89 : decode cX9_readCell 89 = .ok (.aload_n 0, 1) := by decide +kernel
theorem dX9_readCell_90 : decode cX9_readCell 90 = .ok (.getfield 32, 3) := by decide +kernel
theorem dX9_readCell_93 : decode cX9_readCell 93 = .ok (.iload_n 2, 1) := by decide +kernel
theorem dX9_readCell_94 : decode cX9_readCell 94 = .ok (.iload_n 3, 1) := by decide +kernel
theorem dX9_readCell_95 : decode cX9_readCell 95 = .ok (.iastore, 1) := by decide +kernel
theorem dX9_readCell_96 : decode cX9_readCell 96 = .ok (.aload_n 0, 1) := by decide +kernel
theorem dX9_readCell_97 : decode cX9_readCell 97 = .ok (.getfield 35, 3) := by decide +kernel
theorem dX9_readCell_100 : decode cX9_readCell 100 = .ok (.iload_n 2, 1) := by decide +kernel
theorem dX9_readCell_101 : decode cX9_readCell 101 = .ok (.iload 4, 2) := by decide +kernel
theorem dX9_readCell_103 : decode cX9_readCell 103 = .ok (.iastore, 1) := by decide +kernel
theorem dX9_readCell_104 : decode cX9_readCell 104 = .ok (.aload_n 0, 1) := by decide +kernel
theorem dX9_readCell_105 : decode cX9_readCell 105 = .ok (.getfield 38, 3) := by decide +kernel
theorem dX9_readCell_108 : decode cX9_readCell 108 = .ok (.iload_n 2, 1) := by decide +kernel
theorem dX9_readCell_109 : decode cX9_readCell 109 = .ok (.iload 5, 2) := by decide +kernel
theorem dX9_readCell_111 : decode cX9_readCell 111 = .ok (.iastore, 1) := by decide +kernel
theorem dX9_readCell_112 : decode cX9_readCell 112 = .ok (.aload_n 0, 1) := by decide +kernel
theorem dX9_readCell_113 : decode cX9_readCell 113 = .ok (.getfield 41, 3) := by decide +kernel
theorem dX9_readCell_116 : decode cX9_readCell 116 = .ok (.iload_n 2, 1) := by decide +kernel
theorem dX9_readCell_117 : decode cX9_readCell 117 = .ok (.iload 6, 2) := by decide +kernel
theorem dX9_readCell_119 : decode cX9_readCell 119 = .ok (.iastore, 1) := by decide +kernel
theorem dX9_readCell_120 : decode cX9_readCell 120 = .ok (.aload_n 0, 1) := by decide +kernel
theorem dX9_readCell_121 : decode cX9_readCell 121 = .ok (.getfield 44, 3) := by decide +kernel
theorem dX9_readCell_124 : decode cX9_readCell 124 = .ok (.iload_n 2, 1) := by decide +kernel
theorem dX9_readCell_125 : decode cX9_readCell 125 = .ok (.iload_n 1, 1) := by decide +kernel
theorem dX9_readCell_126 : decode cX9_readCell 126 = .ok (.bastore, 1) := by decide +kernel
theorem dX9_readCell_127 : decode cX9_readCell 127 = .ok (.aload_n 0, 1) := by decide +kernel
theorem dX9_readCell_128 : decode cX9_readCell 128 = .ok (.iconst 2, 1) := by decide +kernel
theorem dX9_readCell_129 : decode cX9_readCell 129 = .ok (.aload_n 0, 1) := by decide +kernel
theorem dX9_readCell_130 : decode cX9_readCell 130 = .ok (.iconst 2, 1) := by decide +kernel
theorem dX9_readCell_131 : decode cX9_readCell 131 = .ok (.invokevirtual 181, 3) := by decide +kernel
theorem dX9_readCell_134 : decode cX9_readCell 134 = .ok (.iconst 1, 1) := by decide +kernel
theorem dX9_readCell_135 : decode cX9_readCell 135 = .ok (.iadd, 1) := by decide +kernel
theorem dX9_readCell_136 : decode cX9_readCell 136 = .ok (.invokevirtual 173, 3) := by decide +kernel
theorem dX9_readCell_139 : decode cX9_readCell 139 = .ok (.return_, 1) := by decide +kernel
theorem dX9_pathOf_0 : decode cX9_pathOf 0 = .ok (.iconst 0, 1) := by decide +kernel
theorem dX9_pathOf_1 : decode cX9_pathOf 1 = .ok (.istore 5, 2) := by decide +kernel
theorem dX9_pathOf_3 : decode cX9_pathOf 3 = .ok (.iload 5, 2) := by decide +kernel
theorem dX9_pathOf_5 : decode cX9_pathOf 5 = .ok (.iload_n 2, 1) := by decide +kernel
theorem dX9_pathOf_6 : decode cX9_pathOf 6 = .ok (.if_icmp .ge 39, 3) := by decide +kernel
theorem dX9_pathOf_9 : decode cX9_pathOf 9 = .ok (.aload_n 0, 1) := by decide +kernel
theorem dX9_pathOf_10 : decode cX9_pathOf 10 = .ok (.getfield 47, 3) := by decide +kernel
theorem dX9_pathOf_13 : decode cX9_pathOf 13 = .ok (.iload_n 1, 1) := by decide +kernel
theorem dX9_pathOf_14 : decode cX9_pathOf 14 = .ok (.iload 5, 2) := by decide +kernel
theorem dX9_pathOf_16 : decode cX9_pathOf 16 = .ok (.iadd, 1) := by decide +kernel
theorem dX9_pathOf_17 : decode cX9_pathOf 17 = .ok (.iaload, 1) := by decide +kernel
theorem dX9_pathOf_18 : decode cX9_pathOf 18 = .ok (.iload_n 3, 1) := by decide +kernel
theorem dX9_pathOf_19 : decode cX9_pathOf 19 = .ok (.if_icmp .ne 20, 3) := by decide +kernel
theorem dX9_pathOf_22 : decode cX9_pathOf 22 = .ok (.aload_n 0, 1) := by decide +kernel
theorem dX9_pathOf_23 : decode cX9_pathOf 23 = .ok (.getfield 50, 3) := by decide +kernel
theorem dX9_pathOf_26 : decode cX9_pathOf 26 = .ok (.iload_n 1, 1) := by decide +kernel
theorem dX9_pathOf_27 : decode cX9_pathOf 27 = .ok (.iload 5, 2) := by decide +kernel
theorem dX9_pathOf_29 : decode cX9_pathOf 29 = .ok (.iadd, 1) := by decide +kernel
theorem dX9_pathOf_30 : decode cX9_pathOf 30 = .ok (.iaload, 1) := by decide +kernel
theorem dX9_pathOf_31 : decode cX9_pathOf 31 = .ok (.iload 4, 2) := by decide +kernel
theorem dX9_pathOf_33 : decode cX9_pathOf 33 = .ok (.if_icmp .ne 6, 3) := by decide +kernel
theorem dX9_pathOf_36 : decode cX9_pathOf 36 = .ok (.iload 5, 2) := by decide +kernel
theorem dX9_pathOf_38 : decode cX9_pathOf 38 = .ok (.ireturn, 1) := by decide +kernel
theorem dX9_pathOf_39 : decode cX9_pathOf 39 = .ok (.iinc 5 1, 3) := by decide +kernel
theorem dX9_pathOf_42 : decode cX9_pathOf 42 = .ok (.goto (-39), 3) := by decide +kernel
theorem dX9_pathOf_45 : decode cX9_pathOf 45 = .ok (.iconst (-1), 1) := by decide +kernel
theorem dX9_pathOf_46 : decode cX9_pathOf 46 = .ok (.ireturn, 1) := by decide +kernel
theorem dX9_readPath_0 : decode cX9_readPath 0 = .ok (.bipush 24, 2) := by decide +kernel
theorem dX9_readPath_2 : decode cX9_readPath 2 = .ok (.aload_n 0, 1) := by decide +kernel
theorem dX9_readPath_3 : decode cX9_readPath 3 = .ok (.iconst 3, 1) := by decide +kernel
theorem dX9_readPath_4 : decode cX9_readPath 4 = .ok (.invokevirtual 181, 3) := by decide +kernel
theorem dX9_readPath_7 : decode cX9_readPath 7 = .ok (.iadd, 1) := by decide +kernel
theorem dX9_readPath_8 : decode cX9_readPath 8 = .ok (.istore_n 1, 1) := by decide +kernel
theorem dX9_readPath_9 : decode cX9_readPath 9 = .ok (.iload_n 1, 1) := by decide +kernel
theorem dX9_readPath_10 : decode cX9_readPath 10 = .ok (.bipush 48, 2) := by decide +kernel
theorem dX9_readPath_12 : decode cX9_readPath 12 = .ok (.if_icmp .ne 8, 3) := by decide +kernel
theorem dX9_readPath_15 : decode cX9_readPath 15 = .ok (.aload_n 0, 1) := by decide +kernel
theorem dX9_readPath_16 : decode cX9_readPath 16 = .ok (.iconst 2, 1) := by decide +kernel
theorem dX9_readPath_17 : decode cX9_readPath 17 = .ok (.invokevirtual 162, 3) := by decide +kernel
theorem dX9_readPath_20 : decode cX9_readPath 20 = .ok (.aload_n 0, 1) := by decide +kernel
theorem dX9_readPath_21 : decode cX9_readPath 21 = .ok (.invokevirtual 166, 3) := by decide +kernel
theorem dX9_readPath_24 : decode cX9_readPath 24 = .ok (.aload_n 0, 1) := by decide +kernel
theorem dX9_readPath_25 : decode cX9_readPath 25 = .ok (.aload_n 0, 1) := by decide +kernel
theorem dX9_readPath_26 : decode cX9_readPath 26 = .ok (.getfield 29, 3) := by decide +kernel
theorem dX9_readPath_29 : decode cX9_readPath 29 = .ok (.bipush 10, 2) := by decide +kernel
theorem dX9_readPath_31 : decode cX9_readPath 31 = .ok (.aload_n 0, 1) := by decide +kernel
theorem dX9_readPath_32 : decode cX9_readPath 32 = .ok (.iconst 2, 1) := by decide +kernel
theorem dX9_readPath_33 : decode cX9_readPath 33 = .ok (.invokevirtual 181, 3) := by decide +kernel
theorem dX9_readPath_36 : decode cX9_readPath 36 = .ok (.invokevirtual 189, 3) := by decide +kernel
theorem dX9_readPath_39 : decode cX9_readPath 39 = .ok (.istore_n 2, 1) := by decide +kernel
theorem dX9_readPath_40 : decode cX9_readPath 40 = .ok (.aload_n 0, 1) := by decide +kernel
theorem dX9_readPath_41 : decode cX9_readPath 41 = .ok (.invokevirtual 166, 3) := by decide +kernel
theorem dX9_readPath_44 : decode cX9_readPath 44 = .ok (.aload_n 0, 1) := by decide +kernel
theorem dX9_readPath_45 : decode cX9_readPath 45 = .ok (.aload_n 0, 1) := by decide +kernel
theorem dX9_readPath_46 : decode cX9_readPath 46 = .ok (.getfield 29, 3) := by decide +kernel
theorem dX9_readPath_49 : decode cX9_readPath 49 = .ok (.bipush 10, 2) := by decide +kernel
theorem dX9_readPath_51 : decode cX9_readPath 51 = .ok (.aload_n 0, 1) := by decide +kernel
theorem dX9_readPath_52 : decode cX9_readPath 52 = .ok (.iconst 2, 1) := by decide +kernel
theorem dX9_readPath_53 : decode cX9_readPath 53 = .ok (.invokevirtual 181, 3) := by decide +kernel
theorem dX9_readPath_56 : decode cX9_readPath 56 = .ok (.invokevirtual 189, 3) := by decide +kernel
theorem dX9_readPath_59 : decode cX9_readPath 59 = .ok (.istore_n 3, 1) := by decide +kernel
theorem dX9_readPath_60 : decode cX9_readPath 60 = .ok (.aload_n 0, 1) := by decide +kernel
theorem dX9_readPath_61 : decode cX9_readPath 61 = .ok (.getfield 153, 3) := by decide +kernel
theorem dX9_readPath_64 : decode cX9_readPath 64 = .ok (.ifCond .ne 25, 3) := by decide +kernel
theorem dX9_readPath_67 : decode cX9_readPath 67 = .ok (.aload_n 0, 1) := by decide +kernel
theorem dX9_readPath_68 : decode cX9_readPath 68 = .ok (.bipush 24, 2) := by decide +kernel
theorem dX9_readPath_70 : decode cX9_readPath 70 = .ok (.aload_n 0, 1) := by decide +kernel
theorem dX9_readPath_71 : decode cX9_readPath 71 = .ok (.iconst 3, 1) := by decide +kernel
theorem dX9_readPath_72 : decode cX9_readPath 72 = .ok (.invokevirtual 181, 3) := by decide +kernel
theorem dX9_readPath_75 : decode cX9_readPath 75 = .ok (.iload_n 2, 1) := by decide +kernel
theorem dX9_readPath_76 : decode cX9_readPath 76 = .ok (.iload_n 3, 1) := by decide +kernel
theorem dX9_readPath_77 : decode cX9_readPath 77 = .ok (.invokevirtual 193, 3) := by decide +kernel
theorem dX9_readPath_80 : decode cX9_readPath 80 = .ok (.iconst (-1), 1) := by decide +kernel
theorem dX9_readPath_81 : decode cX9_readPath 81 = .ok (.if_icmp .eq 8, 3) := by decide +kernel
theorem dX9_readPath_84 : decode cX9_readPath 84 = .ok (.aload_n 0, 1) := by decide +kernel
theorem dX9_readPath_85 : decode cX9_readPath 85 = .ok (.iconst 3, 1) := by decide +kernel
theorem dX9_readPath_86 : decode cX9_readPath 86 = .ok (.invokevirtual 162, 3) := by decide +kernel
theorem dX9_readPath_89 : decode cX9_readPath 89 = .ok (.aload_n 0, 1) := by decide +kernel
theorem dX9_readPath_90 : decode cX9_readPath 90 = .ok (.invokevirtual 166, 3) := by decide +kernel
theorem dX9_readPath_93 : decode cX9_readPath 93 = .ok (.aload_n 0, 1) := by decide +kernel
theorem dX9_readPath_94 : decode cX9_readPath 94 = .ok (.iconst 0, 1) := by decide +kernel
theorem dX9_readPath_95 : decode cX9_readPath 95 = .ok (.sipush 999, 3) := by decide +kernel
theorem dX9_readPath_98 : decode cX9_readPath 98 = .ok (.invokevirtual 169, 3) := by decide +kernel
theorem dX9_readPath_101 : decode cX9_readPath 101 = .ok (.istore 4, 2) := by decide +kernel
theorem dX9_readPath_103 : decode cX9_readPath 103 = .ok (.aload_n 0, 1) := by decide +kernel
theorem dX9_readPath_104 : decode cX9_readPath 104 = .ok (.iconst 0, 1) := by decide +kernel
theorem dX9_readPath_105 : decode cX9_readPath 105 = .ok (.iload 4, 2) := by decide +kernel
theorem dX9_readPath_107 : decode cX9_readPath 107 = .ok (.invokevirtual 169, 3) := by decide +kernel
theorem dX9_readPath_110 : decode cX9_readPath 110 = .ok (.istore 5, 2) := by decide +kernel
theorem dX9_readPath_112 : decode cX9_readPath 112 = .ok (.aload_n 0, 1) := by decide +kernel
theorem dX9_readPath_113 : decode cX9_readPath 113 = .ok (.getfield 153, 3) := by decide +kernel
theorem dX9_readPath_116 : decode cX9_readPath 116 = .ok (.ifCond .eq 4, 3) := by decide +kernel
theorem dX9_readPath_119 : decode cX9_readPath 119 = .ok (.return_, 1) := by decide +kernel
theorem dX9_readPath_120 : decode cX9_readPath 120 = .ok (.aload_n 0, 1) := by decide +kernel
theorem dX9_readPath_121 : decode cX9_readPath 121 = .ok (.getfield 47, 3) := by decide +kernel
theorem dX9_readPath_124 : decode cX9_readPath 124 = .ok (.iload_n 1, 1) := by decide +kernel
theorem dX9_readPath_125 : decode cX9_readPath 125 = .ok (.iload_n 2, 1) := by decide +kernel
theorem dX9_readPath_126 : decode cX9_readPath 126 = .ok (.iastore, 1) := by decide +kernel
theorem dX9_readPath_127 : decode cX9_readPath 127 = .ok (.aload_n 0, 1) := by decide +kernel
theorem dX9_readPath_128 : decode cX9_readPath 128 = .ok (.getfield 50, 3) := by decide +kernel
theorem dX9_readPath_131 : decode cX9_readPath 131 = .ok (.iload_n 1, 1) := by decide +kernel
theorem dX9_readPath_132 : decode cX9_readPath 132 = .ok (.iload_n 3, 1) := by decide +kernel
theorem dX9_readPath_133 : decode cX9_readPath 133 = .ok (.iastore, 1) := by decide +kernel
theorem dX9_readPath_134 : decode cX9_readPath 134 = .ok (.aload_n 0, 1) := by decide +kernel
theorem dX9_readPath_135 : decode cX9_readPath 135 = .ok (.getfield 53, 3) := by decide +kernel
theorem dX9_readPath_138 : decode cX9_readPath 138 = .ok (.iload_n 1, 1) := by decide +kernel
theorem dX9_readPath_139 : decode cX9_readPath 139 = .ok (.iload 4, 2) := by decide +kernel
theorem dX9_readPath_141 : decode cX9_readPath 141 = .ok (.iastore, 1) := by decide +kernel
theorem dX9_readPath_142 : decode cX9_readPath 142 = .ok (.aload_n 0, 1) := by decide +kernel
theorem dX9_readPath_143 : decode cX9_readPath 143 = .ok (.getfield 56, 3) := by decide +kernel
theorem dX9_readPath_146 : decode cX9_readPath 146 = .ok (.iload_n 1, 1) := by decide +kernel
theorem dX9_readPath_147 : decode cX9_readPath 147 = .ok (.iload 5, 2) := by decide +kernel
theorem dX9_readPath_149 : decode cX9_readPath 149 = .ok (.iastore, 1) := by decide +kernel
theorem dX9_readPath_150 : decode cX9_readPath 150 = .ok (.aload_n 0, 1) := by decide +kernel
theorem dX9_readPath_151 : decode cX9_readPath 151 = .ok (.iconst 3, 1) := by decide +kernel
theorem dX9_readPath_152 : decode cX9_readPath 152 = .ok (.aload_n 0, 1) := by decide +kernel
theorem dX9_readPath_153 : decode cX9_readPath 153 = .ok (.iconst 3, 1) := by decide +kernel
theorem dX9_readPath_154 : decode cX9_readPath 154 = .ok (.invokevirtual 181, 3) := by decide +kernel
theorem dX9_readPath_157 : decode cX9_readPath 157 = .ok (.iconst 1, 1) := by decide +kernel
theorem dX9_readPath_158 : decode cX9_readPath 158 = .ok (.iadd, 1) := by decide +kernel
theorem dX9_readPath_159 : decode cX9_readPath 159 = .ok (.invokevirtual 173, 3) := by decide +kernel
theorem dX9_readPath_162 : decode cX9_readPath 162 = .ok (.return_, 1) := by decide +kernel
theorem dX9_readLine_0 : decode cX9_readLine 0 = .ok (.aload_n 0, 1) := by decide +kernel
theorem dX9_readLine_1 : decode cX9_readLine 1 = .ok (.getfield 122, 3) := by decide +kernel
theorem dX9_readLine_4 : decode cX9_readLine 4 = .ok (.ifCond .eq 11, 3) := by decide +kernel
theorem dX9_readLine_7 : decode cX9_readLine 7 = .ok (.aload_n 0, 1) := by decide +kernel
theorem dX9_readLine_8 : decode cX9_readLine 8 = .ok (.iconst 1, 1) := by decide +kernel
theorem dX9_readLine_9 : decode cX9_readLine 9 = .ok (.invokevirtual 162, 3) := by decide +kernel
theorem dX9_readLine_12 : decode cX9_readLine 12 = .ok (.goto 119, 3) := by decide +kernel
theorem dX9_readLine_15 : decode cX9_readLine 15 = .ok (.aload_n 0, 1) := by decide +kernel
theorem dX9_readLine_16 : decode cX9_readLine 16 = .ok (.getfield 132, 3) := by decide +kernel
theorem dX9_readLine_19 : decode cX9_readLine 19 = .ok (.ifCond .ne 16, 3) := by decide +kernel
theorem dX9_readLine_22 : decode cX9_readLine 22 = .ok (.aload_n 0, 1) := by decide +kernel
theorem dX9_readLine_23 : decode cX9_readLine 23 = .ok (.iconst 0, 1) := by decide +kernel
theorem dX9_readLine_24 : decode cX9_readLine 24 = .ok (.iconst 0, 1) := by decide +kernel
theorem dX9_readLine_25 : decode cX9_readLine 25 = .ok (.iconst 1, 1) := by decide +kernel
theorem dX9_readLine_26 : decode cX9_readLine 26 = .ok (.sipush 9999, 3) := by decide +kernel
theorem dX9_readLine_29 : decode cX9_readLine 29 = .ok (.invokevirtual 197, 3) := by decide +kernel
theorem dX9_readLine_32 : decode cX9_readLine 32 = .ok (.goto 99, 3) := by decide +kernel
theorem dX9_readLine_35 : decode cX9_readLine 35 = .ok (.aload_n 0, 1) := by decide +kernel
theorem dX9_readLine_36 : decode cX9_readLine 36 = .ok (.getfield 132, 3) := by decide +kernel
theorem dX9_readLine_39 : decode cX9_readLine 39 = .ok (.iconst 1, 1) := by decide +kernel
theorem dX9_readLine_40 : decode cX9_readLine 40 = .ok (.if_icmp .ne 10, 3) := by decide +kernel
theorem dX9_readLine_43 : decode cX9_readLine 43 = .ok (.aload_n 0, 1) := by decide +kernel
theorem dX9_readLine_44 : decode cX9_readLine 44 = .ok (.invokevirtual 201, 3) := by decide +kernel
theorem dX9_readLine_47 : decode cX9_readLine 47 = .ok (.goto 84, 3) := by decide +kernel
theorem dX9_readLine_50 : decode cX9_readLine 50 = .ok (.aload_n 0, 1) := by decide +kernel
theorem dX9_readLine_51 : decode cX9_readLine 51 = .ok (.getfield 132, 3) := by decide +kernel
theorem dX9_readLine_54 : decode cX9_readLine 54 = .ok (.iconst 2, 1) := by decide +kernel
theorem dX9_readLine_55 : decode cX9_readLine 55 = .ok (.if_icmp .eq 11, 3) := by decide +kernel
theorem dX9_readLine_58 : decode cX9_readLine 58 = .ok (.aload_n 0, 1) := by decide +kernel
theorem dX9_readLine_59 : decode cX9_readLine 59 = .ok (.getfield 132, 3) := by decide +kernel
theorem dX9_readLine_62 : decode cX9_readLine 62 = .ok (.iconst 3, 1) := by decide +kernel
theorem dX9_readLine_63 : decode cX9_readLine 63 = .ok (.if_icmp .ne 23, 3) := by decide +kernel
theorem dX9_readLine_66 : decode cX9_readLine 66 = .ok (.aload_n 0, 1) := by decide +kernel
theorem dX9_readLine_67 : decode cX9_readLine 67 = .ok (.aload_n 0, 1) := by decide +kernel
theorem dX9_readLine_68 : decode cX9_readLine 68 = .ok (.getfield 132, 3) := by decide +kernel
theorem dX9_readLine_71 : decode cX9_readLine 71 = .ok (.iconst 3, 1) := by decide +kernel
theorem dX9_readLine_72 : decode cX9_readLine 72 = .ok (.if_icmp .ne 7, 3) := by decide +kernel
theorem dX9_readLine_75 : decode cX9_readLine 75 = .ok (.iconst 1, 1) := by decide +kernel
theorem dX9_readLine_76 : decode cX9_readLine 76 = .ok (.goto 4, 3) := by decide +kernel
theorem dX9_readLine_79 : decode cX9_readLine 79 = .ok (.iconst 0, 1) := by decide +kernel
theorem dX9_readLine_80 : decode cX9_readLine 80 = .ok (.invokevirtual 204, 3) := by decide +kernel
theorem dX9_readLine_83 : decode cX9_readLine 83 = .ok (.goto 48, 3) := by decide +kernel
theorem dX9_readLine_86 : decode cX9_readLine 86 = .ok (.aload_n 0, 1) := by decide +kernel
theorem dX9_readLine_87 : decode cX9_readLine 87 = .ok (.getfield 132, 3) := by decide +kernel
theorem dX9_readLine_90 : decode cX9_readLine 90 = .ok (.iconst 4, 1) := by decide +kernel
theorem dX9_readLine_91 : decode cX9_readLine 91 = .ok (.if_icmp .ne 10, 3) := by decide +kernel
theorem dX9_readLine_94 : decode cX9_readLine 94 = .ok (.aload_n 0, 1) := by decide +kernel
theorem dX9_readLine_95 : decode cX9_readLine 95 = .ok (.invokevirtual 208, 3) := by decide +kernel
theorem dX9_readLine_98 : decode cX9_readLine 98 = .ok (.goto 33, 3) := by decide +kernel
theorem dX9_readLine_101 : decode cX9_readLine 101 = .ok (.aload_n 0, 1) := by decide +kernel
theorem dX9_readLine_102 : decode cX9_readLine 102 = .ok (.getfield 132, 3) := by decide +kernel
theorem dX9_readLine_105 : decode cX9_readLine 105 = .ok (.iconst 5, 1) := by decide +kernel
theorem dX9_readLine_106 : decode cX9_readLine 106 = .ok (.if_icmp .ne 15, 3) := by decide +kernel
theorem dX9_readLine_109 : decode cX9_readLine 109 = .ok (.aload_n 0, 1) := by decide +kernel
theorem dX9_readLine_110 : decode cX9_readLine 110 = .ok (.iconst 5, 1) := by decide +kernel
theorem dX9_readLine_111 : decode cX9_readLine 111 = .ok (.iconst 5, 1) := by decide +kernel
theorem dX9_readLine_112 : decode cX9_readLine 112 = .ok (.iconst 0, 1) := by decide +kernel
theorem dX9_readLine_113 : decode cX9_readLine 113 = .ok (.bipush 99, 2) := by decide +kernel
theorem dX9_readLine_115 : decode cX9_readLine 115 = .ok (.invokevirtual 197, 3) := by decide +kernel
theorem dX9_readLine_118 : decode cX9_readLine 118 = .ok (.goto 13, 3) := by decide +kernel
theorem dX9_readLine_121 : decode cX9_readLine 121 = .ok (.aload_n 0, 1) := by decide +kernel
theorem dX9_readLine_122 : decode cX9_readLine 122 = .ok (.bipush 6, 2) := by decide +kernel
theorem dX9_readLine_124 : decode cX9_readLine 124 = .ok (.iconst 4, 1) := by decide +kernel
theorem dX9_readLine_125 : decode cX9_readLine 125 = .ok (.iconst 0, 1) := by decide +kernel
theorem dX9_readLine_126 : decode cX9_readLine 126 = .ok (.ldc 141, 2) := by decide +kernel
theorem dX9_readLine_128 : decode cX9_readLine 128 = .ok (.invokevirtual 197, 3) := by decide +kernel
theorem dX9_readLine_131 : decode cX9_readLine 131 = .ok (.aload_n 0, 1) := by decide +kernel
theorem dX9_readLine_132 : decode cX9_readLine 132 = .ok (.getfield 153, 3) := by decide +kernel
theorem dX9_readLine_135 : decode cX9_readLine 135 = .ok (.ifCond .ne 16, 3) := by decide +kernel
theorem dX9_readLine_138 : decode cX9_readLine 138 = .ok (.aload_n 0, 1) := by decide +kernel
theorem dX9_readLine_139 : decode cX9_readLine 139 = .ok (.getfield 122, 3) := by decide +kernel
theorem dX9_readLine_142 : decode cX9_readLine 142 = .ok (.iconst 3, 1) := by decide +kernel
theorem dX9_readLine_143 : decode cX9_readLine 143 = .ok (.if_icmp .eq 8, 3) := by decide +kernel
theorem dX9_readLine_146 : decode cX9_readLine 146 = .ok (.aload_n 0, 1) := by decide +kernel
theorem dX9_readLine_147 : decode cX9_readLine 147 = .ok (.iconst 1, 1) := by decide +kernel
theorem dX9_readLine_148 : decode cX9_readLine 148 = .ok (.invokevirtual 162, 3) := by decide +kernel
theorem dX9_readLine_151 : decode cX9_readLine 151 = .ok (.aload_n 0, 1) := by decide +kernel
theorem dX9_readLine_152 : decode cX9_readLine 152 = .ok (.invokevirtual 166, 3) := by decide +kernel
theorem dX9_readLine_155 : decode cX9_readLine 155 = .ok (.aload_n 0, 1) := by decide +kernel
theorem dX9_readLine_156 : decode cX9_readLine 156 = .ok (.dup, 1) := by decide +kernel
theorem dX9_readLine_157 : decode cX9_readLine 157 = .ok (.getfield 211, 3) := by decide +kernel
theorem dX9_readLine_160 : decode cX9_readLine 160 = .ok (.iconst 1, 1) := by decide +kernel
theorem dX9_readLine_161 : decode cX9_readLine 161 = .ok (.iadd, 1) := by decide +kernel
theorem dX9_readLine_162 : decode cX9_readLine 162 = .ok (.putfield 211, 3) := by decide +kernel
theorem dX9_readLine_165 : decode cX9_readLine 165 = .ok (.return_, 1) := by decide +kernel
theorem dX9_freshText_0 : decode cX9_freshText 0 = .ok (.iconst 0, 1) := by decide +kernel
theorem dX9_freshText_1 : decode cX9_freshText 1 = .ok (.istore_n 1, 1) := by decide +kernel
theorem dX9_freshText_2 : decode cX9_freshText 2 = .ok (.iload_n 1, 1) := by decide +kernel
theorem dX9_freshText_3 : decode cX9_freshText 3 = .ok (.bipush 6, 2) := by decide +kernel
theorem dX9_freshText_5 : decode cX9_freshText 5 = .ok (.if_icmp .ge 15, 3) := by decide +kernel
theorem dX9_freshText_8 : decode cX9_freshText 8 = .ok (.aload_n 0, 1) := by decide +kernel
theorem dX9_freshText_9 : decode cX9_freshText 9 = .ok (.iload_n 1, 1) := by decide +kernel
theorem dX9_freshText_10 : decode cX9_freshText 10 = .ok (.iconst 0, 1) := by decide +kernel
theorem dX9_freshText_11 : decode cX9_freshText 11 = .ok (.invokevirtual 173, 3) := by decide +kernel
theorem dX9_freshText_14 : decode cX9_freshText 14 = .ok (.iinc 1 1, 3) := by decide +kernel
theorem dX9_freshText_17 : decode cX9_freshText 17 = .ok (.goto (-15), 3) := by decide +kernel
theorem dX9_freshText_20 : decode cX9_freshText 20 = .ok (.aload_n 0, 1) := by decide +kernel
theorem dX9_freshText_21 : decode cX9_freshText 21 = .ok (.iconst 0, 1) := by decide +kernel
theorem dX9_freshText_22 : decode cX9_freshText 22 = .ok (.bipush 100, 2) := by decide +kernel
theorem dX9_freshText_24 : decode cX9_freshText 24 = .ok (.invokevirtual 173, 3) := by decide +kernel
theorem dX9_freshText_27 : decode cX9_freshText 27 = .ok (.iconst 0, 1) := by decide +kernel
theorem dX9_freshText_28 : decode cX9_freshText 28 = .ok (.istore_n 1, 1) := by decide +kernel
theorem dX9_freshText_29 : decode cX9_freshText 29 = .ok (.iload_n 1, 1) := by decide +kernel
theorem dX9_freshText_30 : decode cX9_freshText 30 = .ok (.bipush 7, 2) := by decide +kernel
theorem dX9_freshText_32 : decode cX9_freshText 32 = .ok (.if_icmp .ge 16, 3) := by decide +kernel
theorem dX9_freshText_35 : decode cX9_freshText 35 = .ok (.aload_n 0, 1) := by decide +kernel
theorem dX9_freshText_36 : decode cX9_freshText 36 = .ok (.getfield 16, 3) := by decide +kernel
theorem dX9_freshText_39 : decode cX9_freshText 39 = .ok (.iload_n 1, 1) := by decide +kernel
theorem dX9_freshText_40 : decode cX9_freshText 40 = .ok (.iconst 0, 1) := by decide +kernel
theorem dX9_freshText_41 : decode cX9_freshText 41 = .ok (.bastore, 1) := by decide +kernel
theorem dX9_freshText_42 : decode cX9_freshText 42 = .ok (.iinc 1 1, 3) := by decide +kernel
theorem dX9_freshText_45 : decode cX9_freshText 45 = .ok (.goto (-16), 3) := by decide +kernel
theorem dX9_freshText_48 : decode cX9_freshText 48 = .ok (.return_, 1) := by decide +kernel
theorem dX9_readText_0 : decode cX9_readText 0 = .ok (.aload_n 0, 1) := by decide +kernel
theorem dX9_readText_1 : decode cX9_readText 1 = .ok (.iload_n 1, 1) := by decide +kernel
theorem dX9_readText_2 : decode cX9_readText 2 = .ok (.putfield 112, 3) := by decide +kernel
theorem dX9_readText_5 : decode cX9_readText 5 = .ok (.aload_n 0, 1) := by decide +kernel
theorem dX9_readText_6 : decode cX9_readText 6 = .ok (.iconst 0, 1) := by decide +kernel
theorem dX9_readText_7 : decode cX9_readText 7 = .ok (.putfield 109, 3) := by decide +kernel
theorem dX9_readText_10 : decode cX9_readText 10 = .ok (.aload_n 0, 1) := by decide +kernel
theorem dX9_readText_11 : decode cX9_readText 11 = .ok (.iconst 0, 1) := by decide +kernel
theorem dX9_readText_12 : decode cX9_readText 12 = .ok (.putfield 153, 3) := by decide +kernel
theorem dX9_readText_15 : decode cX9_readText 15 = .ok (.aload_n 0, 1) := by decide +kernel
theorem dX9_readText_16 : decode cX9_readText 16 = .ok (.iconst 0, 1) := by decide +kernel
theorem dX9_readText_17 : decode cX9_readText 17 = .ok (.putfield 211, 3) := by decide +kernel
theorem dX9_readText_20 : decode cX9_readText 20 = .ok (.aload_n 0, 1) := by decide +kernel
theorem dX9_readText_21 : decode cX9_readText 21 = .ok (.invokevirtual 94, 3) := by decide +kernel
theorem dX9_readText_24 : decode cX9_readText 24 = .ok (.aload_n 0, 1) := by decide +kernel
theorem dX9_readText_25 : decode cX9_readText 25 = .ok (.invokevirtual 159, 3) := by decide +kernel
theorem dX9_readText_28 : decode cX9_readText 28 = .ok (.aload_n 0, 1) := by decide +kernel
theorem dX9_readText_29 : decode cX9_readText 29 = .ok (.getfield 153, 3) := by decide +kernel
theorem dX9_readText_32 : decode cX9_readText 32 = .ok (.ifCond .ne 18, 3) := by decide +kernel
theorem dX9_readText_35 : decode cX9_readText 35 = .ok (.aload_n 0, 1) := by decide +kernel
theorem dX9_readText_36 : decode cX9_readText 36 = .ok (.getfield 122, 3) := by decide +kernel
theorem dX9_readText_39 : decode cX9_readText 39 = .ok (.iconst 4, 1) := by decide +kernel
theorem dX9_readText_40 : decode cX9_readText 40 = .ok (.if_icmp .eq 10, 3) := by decide +kernel
theorem dX9_readText_43 : decode cX9_readText 43 = .ok (.aload_n 0, 1) := by decide +kernel
theorem dX9_readText_44 : decode cX9_readText 44 = .ok (.invokevirtual 214, 3) := by decide +kernel
theorem dX9_readText_47 : decode cX9_readText 47 = .ok (.goto (-19), 3) := by decide +kernel
theorem dX9_readText_50 : decode cX9_readText 50 = .ok (.return_, 1) := by decide +kernel
theorem dX9_takeText_0 : decode cX9_takeText 0 = .ok (.iconst 0, 1) := by decide +kernel
theorem dX9_takeText_1 : decode cX9_takeText 1 = .ok (.istore_n 1, 1) := by decide +kernel
theorem dX9_takeText_2 : decode cX9_takeText 2 = .ok (.iload_n 1, 1) := by decide +kernel
theorem dX9_takeText_3 : decode cX9_takeText 3 = .ok (.bipush 6, 2) := by decide +kernel
theorem dX9_takeText_5 : decode cX9_takeText 5 = .ok (.if_icmp .ge 20, 3) := by decide +kernel
theorem dX9_takeText_8 : decode cX9_takeText 8 = .ok (.aload_n 0, 1) := by decide +kernel
theorem dX9_takeText_9 : decode cX9_takeText 9 = .ok (.getfield 13, 3) := by decide +kernel
theorem dX9_takeText_12 : decode cX9_takeText 12 = .ok (.iload_n 1, 1) := by decide +kernel
theorem dX9_takeText_13 : decode cX9_takeText 13 = .ok (.aload_n 0, 1) := by decide +kernel
theorem dX9_takeText_14 : decode cX9_takeText 14 = .ok (.iload_n 1, 1) := by decide +kernel
theorem dX9_takeText_15 : decode cX9_takeText 15 = .ok (.invokevirtual 181, 3) := by decide +kernel
theorem dX9_takeText_18 : decode cX9_takeText 18 = .ok (.iastore, 1) := by decide +kernel
theorem dX9_takeText_19 : decode cX9_takeText 19 = .ok (.iinc 1 1, 3) := by decide +kernel
theorem dX9_takeText_22 : decode cX9_takeText 22 = .ok (.goto (-20), 3) := by decide +kernel
theorem dX9_takeText_25 : decode cX9_takeText 25 = .ok (.iconst 0, 1) := by decide +kernel
theorem dX9_takeText_26 : decode cX9_takeText 26 = .ok (.istore_n 1, 1) := by decide +kernel
theorem dX9_takeText_27 : decode cX9_takeText 27 = .ok (.iload_n 1, 1) := by decide +kernel
theorem dX9_takeText_28 : decode cX9_takeText 28 = .ok (.iconst 4, 1) := by decide +kernel
theorem dX9_takeText_29 : decode cX9_takeText 29 = .ok (.if_icmp .ge 51, 3) := by decide +kernel
theorem dX9_takeText_32 : decode cX9_takeText 32 = .ok (.aload_n 0, 1) := by decide +kernel
theorem dX9_takeText_33 : decode cX9_takeText 33 = .ok (.getfield 20, 3) := by decide +kernel
theorem dX9_takeText_36 : decode cX9_takeText 36 = .ok (.iload_n 1, 1) := by decide +kernel
theorem dX9_takeText_37 : decode cX9_takeText 37 = .ok (.aload_n 0, 1) := by decide +kernel
theorem dX9_takeText_38 : decode cX9_takeText 38 = .ok (.getfield 20, 3) := by decide +kernel
theorem dX9_takeText_41 : decode cX9_takeText 41 = .ok (.iconst 4, 1) := by decide +kernel
theorem dX9_takeText_42 : decode cX9_takeText 42 = .ok (.iload_n 1, 1) := by decide +kernel
theorem dX9_takeText_43 : decode cX9_takeText 43 = .ok (.iadd, 1) := by decide +kernel
theorem dX9_takeText_44 : decode cX9_takeText 44 = .ok (.iaload, 1) := by decide +kernel
theorem dX9_takeText_45 : decode cX9_takeText 45 = .ok (.iastore, 1) := by decide +kernel
theorem dX9_takeText_46 : decode cX9_takeText 46 = .ok (.aload_n 0, 1) := by decide +kernel
theorem dX9_takeText_47 : decode cX9_takeText 47 = .ok (.getfield 23, 3) := by decide +kernel
theorem dX9_takeText_50 : decode cX9_takeText 50 = .ok (.iload_n 1, 1) := by decide +kernel
theorem dX9_takeText_51 : decode cX9_takeText 51 = .ok (.aload_n 0, 1) := by decide +kernel
theorem dX9_takeText_52 : decode cX9_takeText 52 = .ok (.getfield 23, 3) := by decide +kernel
theorem dX9_takeText_55 : decode cX9_takeText 55 = .ok (.iconst 4, 1) := by decide +kernel
theorem dX9_takeText_56 : decode cX9_takeText 56 = .ok (.iload_n 1, 1) := by decide +kernel
theorem dX9_takeText_57 : decode cX9_takeText 57 = .ok (.iadd, 1) := by decide +kernel
theorem dX9_takeText_58 : decode cX9_takeText 58 = .ok (.iaload, 1) := by decide +kernel
theorem dX9_takeText_59 : decode cX9_takeText 59 = .ok (.iastore, 1) := by decide +kernel
theorem dX9_takeText_60 : decode cX9_takeText 60 = .ok (.aload_n 0, 1) := by decide +kernel
theorem dX9_takeText_61 : decode cX9_takeText 61 = .ok (.getfield 26, 3) := by decide +kernel
theorem dX9_takeText_64 : decode cX9_takeText 64 = .ok (.iload_n 1, 1) := by decide +kernel
theorem dX9_takeText_65 : decode cX9_takeText 65 = .ok (.aload_n 0, 1) := by decide +kernel
theorem dX9_takeText_66 : decode cX9_takeText 66 = .ok (.getfield 26, 3) := by decide +kernel
theorem dX9_takeText_69 : decode cX9_takeText 69 = .ok (.iconst 4, 1) := by decide +kernel
theorem dX9_takeText_70 : decode cX9_takeText 70 = .ok (.iload_n 1, 1) := by decide +kernel
theorem dX9_takeText_71 : decode cX9_takeText 71 = .ok (.iadd, 1) := by decide +kernel
theorem dX9_takeText_72 : decode cX9_takeText 72 = .ok (.iaload, 1) := by decide +kernel
theorem dX9_takeText_73 : decode cX9_takeText 73 = .ok (.iastore, 1) := by decide +kernel
theorem dX9_takeText_74 : decode cX9_takeText 74 = .ok (.iinc 1 1, 3) := by decide +kernel
theorem dX9_takeText_77 : decode cX9_takeText 77 = .ok (.goto (-50), 3) := by decide +kernel
theorem dX9_takeText_80 : decode cX9_takeText 80 = .ok (.iconst 0, 1) := by decide +kernel
theorem dX9_takeText_81 : decode cX9_takeText 81 = .ok (.istore_n 1, 1) := by decide +kernel
theorem dX9_takeText_82 : decode cX9_takeText 82 = .ok (.iload_n 1, 1) := by decide +kernel
theorem dX9_takeText_83 : decode cX9_takeText 83 = .ok (.bipush 10, 2) := by decide +kernel
theorem dX9_takeText_85 : decode cX9_takeText 85 = .ok (.if_icmp .ge 99, 3) := by decide +kernel
theorem dX9_takeText_88 : decode cX9_takeText 88 = .ok (.aload_n 0, 1) := by decide +kernel
theorem dX9_takeText_89 : decode cX9_takeText 89 = .ok (.getfield 29, 3) := by decide +kernel
theorem dX9_takeText_92 : decode cX9_takeText 92 = .ok (.iload_n 1, 1) := by decide +kernel
theorem dX9_takeText_93 : decode cX9_takeText 93 = .ok (.aload_n 0, 1) := by decide +kernel
theorem dX9_takeText_94 : decode cX9_takeText 94 = .ok (.getfield 29, 3) := by decide +kernel
theorem dX9_takeText_97 : decode cX9_takeText 97 = .ok (.bipush 10, 2) := by decide +kernel
theorem dX9_takeText_99 : decode cX9_takeText 99 = .ok (.iload_n 1, 1) := by decide +kernel
theorem dX9_takeText_100 : decode cX9_takeText 100 = .ok (.iadd, 1) := by decide +kernel
theorem dX9_takeText_101 : decode cX9_takeText 101 = .ok (.iaload, 1) := by decide +kernel
theorem dX9_takeText_102 : decode cX9_takeText 102 = .ok (.iastore, 1) := by decide +kernel
theorem dX9_takeText_103 : decode cX9_takeText 103 = .ok (.aload_n 0, 1) := by decide +kernel
theorem dX9_takeText_104 : decode cX9_takeText 104 = .ok (.getfield 32, 3) := by decide +kernel
theorem dX9_takeText_107 : decode cX9_takeText 107 = .ok (.iload_n 1, 1) := by decide +kernel
theorem dX9_takeText_108 : decode cX9_takeText 108 = .ok (.aload_n 0, 1) := by decide +kernel
theorem dX9_takeText_109 : decode cX9_takeText 109 = .ok (.getfield 32, 3) := by decide +kernel
theorem dX9_takeText_112 : decode cX9_takeText 112 = .ok (.bipush 10, 2) := by decide +kernel
theorem dX9_takeText_114 : decode cX9_takeText 114 = .ok (.iload_n 1, 1) := by decide +kernel
theorem dX9_takeText_115 : decode cX9_takeText 115 = .ok (.iadd, 1) := by decide +kernel
theorem dX9_takeText_116 : decode cX9_takeText 116 = .ok (.iaload, 1) := by decide +kernel
theorem dX9_takeText_117 : decode cX9_takeText 117 = .ok (.iastore, 1) := by decide +kernel
theorem dX9_takeText_118 : decode cX9_takeText 118 = .ok (.aload_n 0, 1) := by decide +kernel
theorem dX9_takeText_119 : decode cX9_takeText 119 = .ok (.getfield 35, 3) := by decide +kernel
theorem dX9_takeText_122 : decode cX9_takeText 122 = .ok (.iload_n 1, 1) := by decide +kernel
theorem dX9_takeText_123 : decode cX9_takeText 123 = .ok (.aload_n 0, 1) := by decide +kernel
theorem dX9_takeText_124 : decode cX9_takeText 124 = .ok (.getfield 35, 3) := by decide +kernel
theorem dX9_takeText_127 : decode cX9_takeText 127 = .ok (.bipush 10, 2) := by decide +kernel
theorem dX9_takeText_129 : decode cX9_takeText 129 = .ok (.iload_n 1, 1) := by decide +kernel
theorem dX9_takeText_130 : decode cX9_takeText 130 = .ok (.iadd, 1) := by decide +kernel
theorem dX9_takeText_131 : decode cX9_takeText 131 = .ok (.iaload, 1) := by decide +kernel
theorem dX9_takeText_132 : decode cX9_takeText 132 = .ok (.iastore, 1) := by decide +kernel
theorem dX9_takeText_133 : decode cX9_takeText 133 = .ok (.aload_n 0, 1) := by decide +kernel
theorem dX9_takeText_134 : decode cX9_takeText 134 = .ok (.getfield 38, 3) := by decide +kernel
theorem dX9_takeText_137 : decode cX9_takeText 137 = .ok (.iload_n 1, 1) := by decide +kernel
theorem dX9_takeText_138 : decode cX9_takeText 138 = .ok (.aload_n 0, 1) := by decide +kernel
theorem dX9_takeText_139 : decode cX9_takeText 139 = .ok (.getfield 38, 3) := by decide +kernel
theorem dX9_takeText_142 : decode cX9_takeText 142 = .ok (.bipush 10, 2) := by decide +kernel
theorem dX9_takeText_144 : decode cX9_takeText 144 = .ok (.iload_n 1, 1) := by decide +kernel
theorem dX9_takeText_145 : decode cX9_takeText 145 = .ok (.iadd, 1) := by decide +kernel
theorem dX9_takeText_146 : decode cX9_takeText 146 = .ok (.iaload, 1) := by decide +kernel
theorem dX9_takeText_147 : decode cX9_takeText 147 = .ok (.iastore, 1) := by decide +kernel
theorem dX9_takeText_148 : decode cX9_takeText 148 = .ok (.aload_n 0, 1) := by decide +kernel
theorem dX9_takeText_149 : decode cX9_takeText 149 = .ok (.getfield 41, 3) := by decide +kernel
theorem dX9_takeText_152 : decode cX9_takeText 152 = .ok (.iload_n 1, 1) := by decide +kernel
theorem dX9_takeText_153 : decode cX9_takeText 153 = .ok (.aload_n 0, 1) := by decide +kernel
theorem dX9_takeText_154 : decode cX9_takeText 154 = .ok (.getfield 41, 3) := by decide +kernel
theorem dX9_takeText_157 : decode cX9_takeText 157 = .ok (.bipush 10, 2) := by decide +kernel
theorem dX9_takeText_159 : decode cX9_takeText 159 = .ok (.iload_n 1, 1) := by decide +kernel
theorem dX9_takeText_160 : decode cX9_takeText 160 = .ok (.iadd, 1) := by decide +kernel
theorem dX9_takeText_161 : decode cX9_takeText 161 = .ok (.iaload, 1) := by decide +kernel
theorem dX9_takeText_162 : decode cX9_takeText 162 = .ok (.iastore, 1) := by decide +kernel
theorem dX9_takeText_163 : decode cX9_takeText 163 = .ok (.aload_n 0, 1) := by decide +kernel
theorem dX9_takeText_164 : decode cX9_takeText 164 = .ok (.getfield 44, 3) := by decide +kernel
theorem dX9_takeText_167 : decode cX9_takeText 167 = .ok (.iload_n 1, 1) := by decide +kernel
theorem dX9_takeText_168 : decode cX9_takeText 168 = .ok (.aload_n 0, 1) := by decide +kernel
theorem dX9_takeText_169 : decode cX9_takeText 169 = .ok (.getfield 44, 3) := by decide +kernel
theorem dX9_takeText_172 : decode cX9_takeText 172 = .ok (.bipush 10, 2) := by decide +kernel
theorem dX9_takeText_174 : decode cX9_takeText 174 = .ok (.iload_n 1, 1) := by decide +kernel
theorem dX9_takeText_175 : decode cX9_takeText 175 = .ok (.iadd, 1) := by decide +kernel
theorem dX9_takeText_176 : decode cX9_takeText 176 = .ok (.baload, 1) := by decide +kernel
theorem dX9_takeText_177 : decode cX9_takeText 177 = .ok (.bastore, 1) := by decide +kernel
theorem dX9_takeText_178 : decode cX9_takeText 178 = .ok (.iinc 1 1, 3) := by decide +kernel
theorem dX9_takeText_181 : decode cX9_takeText 181 = .ok (.goto (-99), 3) := by decide +kernel
theorem dX9_takeText_184 : decode cX9_takeText 184 = .ok (.iconst 0, 1) := by decide +kernel
theorem dX9_takeText_185 : decode cX9_takeText 185 = .ok (.istore_n 1, 1) := by decide +kernel
theorem dX9_takeText_186 : decode cX9_takeText 186 = .ok (.iload_n 1, 1) := by decide +kernel
theorem dX9_takeText_187 : decode cX9_takeText 187 = .ok (.bipush 24, 2) := by decide +kernel
theorem dX9_takeText_189 : decode cX9_takeText 189 = .ok (.if_icmp .ge 69, 3) := by decide +kernel
theorem dX9_takeText_192 : decode cX9_takeText 192 = .ok (.aload_n 0, 1) := by decide +kernel
theorem dX9_takeText_193 : decode cX9_takeText 193 = .ok (.getfield 47, 3) := by decide +kernel
theorem dX9_takeText_196 : decode cX9_takeText 196 = .ok (.iload_n 1, 1) := by decide +kernel
theorem dX9_takeText_197 : decode cX9_takeText 197 = .ok (.aload_n 0, 1) := by decide +kernel
theorem dX9_takeText_198 : decode cX9_takeText 198 = .ok (.getfield 47, 3) := by decide +kernel
theorem dX9_takeText_201 : decode cX9_takeText 201 = .ok (.bipush 24, 2) := by decide +kernel
theorem dX9_takeText_203 : decode cX9_takeText 203 = .ok (.iload_n 1, 1) := by decide +kernel
theorem dX9_takeText_204 : decode cX9_takeText 204 = .ok (.iadd, 1) := by decide +kernel
theorem dX9_takeText_205 : decode cX9_takeText 205 = .ok (.iaload, 1) := by decide +kernel
theorem dX9_takeText_206 : decode cX9_takeText 206 = .ok (.iastore, 1) := by decide +kernel
theorem dX9_takeText_207 : decode cX9_takeText 207 = .ok (.aload_n 0, 1) := by decide +kernel
theorem dX9_takeText_208 : decode cX9_takeText 208 = .ok (.getfield 50, 3) := by decide +kernel
theorem dX9_takeText_211 : decode cX9_takeText 211 = .ok (.iload_n 1, 1) := by decide +kernel
theorem dX9_takeText_212 : decode cX9_takeText 212 = .ok (.aload_n 0, 1) := by decide +kernel
theorem dX9_takeText_213 : decode cX9_takeText 213 = .ok (.getfield 50, 3) := by decide +kernel
theorem dX9_takeText_216 : decode cX9_takeText 216 = .ok (.bipush 24, 2) := by decide +kernel
theorem dX9_takeText_218 : decode cX9_takeText 218 = .ok (.iload_n 1, 1) := by decide +kernel
theorem dX9_takeText_219 : decode cX9_takeText 219 = .ok (.iadd, 1) := by decide +kernel
theorem dX9_takeText_220 : decode cX9_takeText 220 = .ok (.iaload, 1) := by decide +kernel
theorem dX9_takeText_221 : decode cX9_takeText 221 = .ok (.iastore, 1) := by decide +kernel
theorem dX9_takeText_222 : decode cX9_takeText 222 = .ok (.aload_n 0, 1) := by decide +kernel
theorem dX9_takeText_223 : decode cX9_takeText 223 = .ok (.getfield 53, 3) := by decide +kernel
theorem dX9_takeText_226 : decode cX9_takeText 226 = .ok (.iload_n 1, 1) := by decide +kernel
theorem dX9_takeText_227 : decode cX9_takeText 227 = .ok (.aload_n 0, 1) := by decide +kernel
theorem dX9_takeText_228 : decode cX9_takeText 228 = .ok (.getfield 53, 3) := by decide +kernel
theorem dX9_takeText_231 : decode cX9_takeText 231 = .ok (.bipush 24, 2) := by decide +kernel
theorem dX9_takeText_233 : decode cX9_takeText 233 = .ok (.iload_n 1, 1) := by decide +kernel
theorem dX9_takeText_234 : decode cX9_takeText 234 = .ok (.iadd, 1) := by decide +kernel
theorem dX9_takeText_235 : decode cX9_takeText 235 = .ok (.iaload, 1) := by decide +kernel
theorem dX9_takeText_236 : decode cX9_takeText 236 = .ok (.iastore, 1) := by decide +kernel
theorem dX9_takeText_237 : decode cX9_takeText 237 = .ok (.aload_n 0, 1) := by decide +kernel
theorem dX9_takeText_238 : decode cX9_takeText 238 = .ok (.getfield 56, 3) := by decide +kernel
theorem dX9_takeText_241 : decode cX9_takeText 241 = .ok (.iload_n 1, 1) := by decide +kernel
theorem dX9_takeText_242 : decode cX9_takeText 242 = .ok (.aload_n 0, 1) := by decide +kernel
theorem dX9_takeText_243 : decode cX9_takeText 243 = .ok (.getfield 56, 3) := by decide +kernel
theorem dX9_takeText_246 : decode cX9_takeText 246 = .ok (.bipush 24, 2) := by decide +kernel
theorem dX9_takeText_248 : decode cX9_takeText 248 = .ok (.iload_n 1, 1) := by decide +kernel
theorem dX9_takeText_249 : decode cX9_takeText 249 = .ok (.iadd, 1) := by decide +kernel
theorem dX9_takeText_250 : decode cX9_takeText 250 = .ok (.iaload, 1) := by decide +kernel
theorem dX9_takeText_251 : decode cX9_takeText 251 = .ok (.iastore, 1) := by decide +kernel
theorem dX9_takeText_252 : decode cX9_takeText 252 = .ok (.iinc 1 1, 3) := by decide +kernel
theorem dX9_takeText_255 : decode cX9_takeText 255 = .ok (.goto (-69), 3) := by decide +kernel
theorem dX9_takeText_258 : decode cX9_takeText 258 = .ok (.return_, 1) := by decide +kernel
theorem dX9_text_0 : decode cX9_text 0 = .ok (.aload_n 0, 1) := by decide +kernel
theorem dX9_text_1 : decode cX9_text 1 = .ok (.iconst 0, 1) := by decide +kernel
theorem dX9_text_2 : decode cX9_text 2 = .ok (.putfield 103, 3) := by decide +kernel
theorem dX9_text_5 : decode cX9_text 5 = .ok (.iload_n 1, 1) := by decide +kernel
theorem dX9_text_6 : decode cX9_text 6 = .ok (.ifCond .lt 11, 3) := by decide +kernel
theorem dX9_text_9 : decode cX9_text 9 = .ok (.iload_n 1, 1) := by decide +kernel
theorem dX9_text_10 : decode cX9_text 10 = .ok (.aload_n 0, 1) := by decide +kernel
theorem dX9_text_11 : decode cX9_text 11 = .ok (.getfield 106, 3) := by decide +kernel
theorem dX9_text_14 : decode cX9_text 14 = .ok (.if_icmp .le 6, 3) := by decide +kernel
theorem dX9_text_17 : decode cX9_text 17 = .ok (.bipush (-2), 2) := by decide +kernel
theorem dX9_text_19 : decode cX9_text 19 = .ok (.ireturn, 1) := by decide +kernel
theorem dX9_text_20 : decode cX9_text 20 = .ok (.aload_n 0, 1) := by decide +kernel
theorem dX9_text_21 : decode cX9_text 21 = .ok (.iload_n 1, 1) := by decide +kernel
theorem dX9_text_22 : decode cX9_text 22 = .ok (.invokevirtual 217, 3) := by decide +kernel
theorem dX9_text_25 : decode cX9_text 25 = .ok (.aload_n 0, 1) := by decide +kernel
theorem dX9_text_26 : decode cX9_text 26 = .ok (.iconst 0, 1) := by decide +kernel
theorem dX9_text_27 : decode cX9_text 27 = .ok (.putfield 106, 3) := by decide +kernel
theorem dX9_text_30 : decode cX9_text 30 = .ok (.aload_n 0, 1) := by decide +kernel
theorem dX9_text_31 : decode cX9_text 31 = .ok (.aload_n 0, 1) := by decide +kernel
theorem dX9_text_32 : decode cX9_text 32 = .ok (.getfield 153, 3) := by decide +kernel
theorem dX9_text_35 : decode cX9_text 35 = .ok (.putfield 220, 3) := by decide +kernel
theorem dX9_text_38 : decode cX9_text 38 = .ok (.aload_n 0, 1) := by decide +kernel
theorem dX9_text_39 : decode cX9_text 39 = .ok (.aload_n 0, 1) := by decide +kernel
theorem dX9_text_40 : decode cX9_text 40 = .ok (.getfield 153, 3) := by decide +kernel
theorem dX9_text_43 : decode cX9_text 43 = .ok (.ifCond .ne 7, 3) := by decide +kernel
theorem dX9_text_46 : decode cX9_text 46 = .ok (.iconst (-1), 1) := by decide +kernel
theorem dX9_text_47 : decode cX9_text 47 = .ok (.goto 7, 3) := by decide +kernel
theorem dX9_text_50 : decode cX9_text 50 = .ok (.aload_n 0, 1) := by decide +kernel
theorem dX9_text_51 : decode cX9_text 51 = .ok (.getfield 156, 3) := by decide +kernel
theorem dX9_text_54 : decode cX9_text 54 = .ok (.putfield 59, 3) := by decide +kernel
theorem dX9_text_57 : decode cX9_text 57 = .ok (.aload_n 0, 1) := by decide +kernel
theorem dX9_text_58 : decode cX9_text 58 = .ok (.getfield 153, 3) := by decide +kernel
theorem dX9_text_61 : decode cX9_text 61 = .ok (.ifCond .eq 5, 3) := by decide +kernel
theorem dX9_text_64 : decode cX9_text 64 = .ok (.iconst (-1), 1) := by decide +kernel
theorem dX9_text_65 : decode cX9_text 65 = .ok (.ireturn, 1) := by decide +kernel
theorem dX9_text_66 : decode cX9_text 66 = .ok (.aload_n 0, 1) := by decide +kernel
theorem dX9_text_67 : decode cX9_text 67 = .ok (.invokevirtual 97, 3) := by decide +kernel
theorem dX9_text_70 : decode cX9_text 70 = .ok (.aload_n 0, 1) := by decide +kernel
theorem dX9_text_71 : decode cX9_text 71 = .ok (.invokevirtual 100, 3) := by decide +kernel
theorem dX9_text_74 : decode cX9_text 74 = .ok (.aload_n 0, 1) := by decide +kernel
theorem dX9_text_75 : decode cX9_text 75 = .ok (.iconst 0, 1) := by decide +kernel
theorem dX9_text_76 : decode cX9_text 76 = .ok (.putfield 223, 3) := by decide +kernel
theorem dX9_text_79 : decode cX9_text 79 = .ok (.aload_n 0, 1) := by decide +kernel
theorem dX9_text_80 : decode cX9_text 80 = .ok (.iconst 0, 1) := by decide +kernel
theorem dX9_text_81 : decode cX9_text 81 = .ok (.putfield 226, 3) := by decide +kernel
theorem dX9_text_84 : decode cX9_text 84 = .ok (.aload_n 0, 1) := by decide +kernel
theorem dX9_text_85 : decode cX9_text 85 = .ok (.getfield 211, 3) := by decide +kernel
theorem dX9_text_88 : decode cX9_text 88 = .ok (.ireturn, 1) := by decide +kernel
theorem dX9_fault_0 : decode cX9_fault 0 = .ok (.aload_n 0, 1) := by decide +kernel
theorem dX9_fault_1 : decode cX9_fault 1 = .ok (.iconst 0, 1) := by decide +kernel
theorem dX9_fault_2 : decode cX9_fault 2 = .ok (.putfield 103, 3) := by decide +kernel
theorem dX9_fault_5 : decode cX9_fault 5 = .ok (.iload_n 1, 1) := by decide +kernel
theorem dX9_fault_6 : decode cX9_fault 6 = .ok (.ifCond .ne 10, 3) := by decide +kernel
theorem dX9_fault_9 : decode cX9_fault 9 = .ok (.aload_n 0, 1) := by decide +kernel
theorem dX9_fault_10 : decode cX9_fault 10 = .ok (.getfield 220, 3) := by decide +kernel
theorem dX9_fault_13 : decode cX9_fault 13 = .ok (.goto 16, 3) := by decide +kernel
theorem dX9_fault_16 : decode cX9_fault 16 = .ok (.iload_n 1, 1) := by decide +kernel
theorem dX9_fault_17 : decode cX9_fault 17 = .ok (.iconst 1, 1) := by decide +kernel
theorem dX9_fault_18 : decode cX9_fault 18 = .ok (.if_icmp .ne 10, 3) := by decide +kernel
theorem dX9_fault_21 : decode cX9_fault 21 = .ok (.aload_n 0, 1) := by decide +kernel
theorem dX9_fault_22 : decode cX9_fault 22 = .ok (.getfield 59, 3) := by decide +kernel
theorem dX9_fault_25 : decode cX9_fault 25 = .ok (.goto 4, 3) := by decide +kernel
theorem dX9_fault_28 : decode cX9_fault 28 = .ok (.iconst (-1), 1) := by decide +kernel
theorem dX9_fault_29 : decode cX9_fault 29 = .ok (.ireturn, 1) := by decide +kernel
theorem dX9_phases_0 : decode cX9_phases 0 = .ok (.aload_n 0, 1) := by decide +kernel
theorem dX9_phases_1 : decode cX9_phases 1 = .ok (.getfield 13, 3) := by decide +kernel
theorem dX9_phases_4 : decode cX9_phases 4 = .ok (.iconst 1, 1) := by decide +kernel
theorem dX9_phases_5 : decode cX9_phases 5 = .ok (.iaload, 1) := by decide +kernel
theorem dX9_phases_6 : decode cX9_phases 6 = .ok (.ireturn, 1) := by decide +kernel
theorem dX9_cells_0 : decode cX9_cells 0 = .ok (.aload_n 0, 1) := by decide +kernel
theorem dX9_cells_1 : decode cX9_cells 1 = .ok (.getfield 13, 3) := by decide +kernel
theorem dX9_cells_4 : decode cX9_cells 4 = .ok (.iconst 2, 1) := by decide +kernel
theorem dX9_cells_5 : decode cX9_cells 5 = .ok (.iaload, 1) := by decide +kernel
theorem dX9_cells_6 : decode cX9_cells 6 = .ok (.ireturn, 1) := by decide +kernel
theorem dX9_paths_0 : decode cX9_paths 0 = .ok (.aload_n 0, 1) := by decide +kernel
theorem dX9_paths_1 : decode cX9_paths 1 = .ok (.getfield 13, 3) := by decide +kernel
theorem dX9_paths_4 : decode cX9_paths 4 = .ok (.iconst 3, 1) := by decide +kernel
theorem dX9_paths_5 : decode cX9_paths 5 = .ok (.iaload, 1) := by decide +kernel
theorem dX9_paths_6 : decode cX9_paths 6 = .ok (.ireturn, 1) := by decide +kernel
theorem dX9_named_0 : decode cX9_named 0 = .ok (.aload_n 0, 1) := by decide +kernel
theorem dX9_named_1 : decode cX9_named 1 = .ok (.iconst 0, 1) := by decide +kernel
theorem dX9_named_2 : decode cX9_named 2 = .ok (.putfield 103, 3) := by decide +kernel
theorem dX9_named_5 : decode cX9_named 5 = .ok (.iload_n 1, 1) := by decide +kernel
theorem dX9_named_6 : decode cX9_named 6 = .ok (.ifCond .ne 19, 3) := by decide +kernel
theorem dX9_named_9 : decode cX9_named 9 = .ok (.aload_n 0, 1) := by decide +kernel
theorem dX9_named_10 : decode cX9_named 10 = .ok (.getfield 20, 3) := by decide +kernel
theorem dX9_named_13 : decode cX9_named 13 = .ok (.iconst 0, 1) := by decide +kernel
theorem dX9_named_14 : decode cX9_named 14 = .ok (.aload_n 0, 1) := by decide +kernel
theorem dX9_named_15 : decode cX9_named 15 = .ok (.invokevirtual 230, 3) := by decide +kernel
theorem dX9_named_18 : decode cX9_named 18 = .ok (.iload_n 2, 1) := by decide +kernel
theorem dX9_named_19 : decode cX9_named 19 = .ok (.invokestatic 177, 3) := by decide +kernel
theorem dX9_named_22 : decode cX9_named 22 = .ok (.goto 25, 3) := by decide +kernel
theorem dX9_named_25 : decode cX9_named 25 = .ok (.iload_n 1, 1) := by decide +kernel
theorem dX9_named_26 : decode cX9_named 26 = .ok (.iconst 1, 1) := by decide +kernel
theorem dX9_named_27 : decode cX9_named 27 = .ok (.if_icmp .ne 19, 3) := by decide +kernel
theorem dX9_named_30 : decode cX9_named 30 = .ok (.aload_n 0, 1) := by decide +kernel
theorem dX9_named_31 : decode cX9_named 31 = .ok (.getfield 29, 3) := by decide +kernel
theorem dX9_named_34 : decode cX9_named 34 = .ok (.iconst 0, 1) := by decide +kernel
theorem dX9_named_35 : decode cX9_named 35 = .ok (.aload_n 0, 1) := by decide +kernel
theorem dX9_named_36 : decode cX9_named 36 = .ok (.invokevirtual 233, 3) := by decide +kernel
theorem dX9_named_39 : decode cX9_named 39 = .ok (.iload_n 2, 1) := by decide +kernel
theorem dX9_named_40 : decode cX9_named 40 = .ok (.invokestatic 177, 3) := by decide +kernel
theorem dX9_named_43 : decode cX9_named 43 = .ok (.goto 4, 3) := by decide +kernel
theorem dX9_named_46 : decode cX9_named 46 = .ok (.iconst (-1), 1) := by decide +kernel
theorem dX9_named_47 : decode cX9_named 47 = .ok (.ireturn, 1) := by decide +kernel
theorem dX9_begins_0 : decode cX9_begins 0 = .ok (.iconst 0, 1) := by decide +kernel
theorem dX9_begins_1 : decode cX9_begins 1 = .ok (.istore_n 1, 1) := by decide +kernel
theorem dX9_begins_2 : decode cX9_begins 2 = .ok (.iload_n 1, 1) := by decide +kernel
theorem dX9_begins_3 : decode cX9_begins 3 = .ok (.bipush 68, 2) := by decide +kernel
theorem dX9_begins_5 : decode cX9_begins 5 = .ok (.if_icmp .ge 16, 3) := by decide +kernel
theorem dX9_begins_8 : decode cX9_begins 8 = .ok (.aload_n 0, 1) := by decide +kernel
theorem dX9_begins_9 : decode cX9_begins 9 = .ok (.getfield 63, 3) := by decide +kernel
theorem dX9_begins_12 : decode cX9_begins 12 = .ok (.iload_n 1, 1) := by decide +kernel
theorem dX9_begins_13 : decode cX9_begins 13 = .ok (.iconst 0, 1) := by decide +kernel
theorem dX9_begins_14 : decode cX9_begins 14 = .ok (.iastore, 1) := by decide +kernel
theorem dX9_begins_15 : decode cX9_begins 15 = .ok (.iinc 1 1, 3) := by decide +kernel
theorem dX9_begins_18 : decode cX9_begins 18 = .ok (.goto (-16), 3) := by decide +kernel
theorem dX9_begins_21 : decode cX9_begins 21 = .ok (.aload_n 0, 1) := by decide +kernel
theorem dX9_begins_22 : decode cX9_begins 22 = .ok (.getfield 63, 3) := by decide +kernel
theorem dX9_begins_25 : decode cX9_begins 25 = .ok (.iconst 0, 1) := by decide +kernel
theorem dX9_begins_26 : decode cX9_begins 26 = .ok (.aload_n 0, 1) := by decide +kernel
theorem dX9_begins_27 : decode cX9_begins 27 = .ok (.getfield 13, 3) := by decide +kernel
theorem dX9_begins_30 : decode cX9_begins 30 = .ok (.iconst 0, 1) := by decide +kernel
theorem dX9_begins_31 : decode cX9_begins 31 = .ok (.iaload, 1) := by decide +kernel
theorem dX9_begins_32 : decode cX9_begins 32 = .ok (.iastore, 1) := by decide +kernel
theorem dX9_begins_33 : decode cX9_begins 33 = .ok (.aload_n 0, 1) := by decide +kernel
theorem dX9_begins_34 : decode cX9_begins 34 = .ok (.getfield 63, 3) := by decide +kernel
theorem dX9_begins_37 : decode cX9_begins 37 = .ok (.bipush 67, 2) := by decide +kernel
theorem dX9_begins_39 : decode cX9_begins 39 = .ok (.aload_n 0, 1) := by decide +kernel
theorem dX9_begins_40 : decode cX9_begins 40 = .ok (.getfield 13, 3) := by decide +kernel
theorem dX9_begins_43 : decode cX9_begins 43 = .ok (.iconst 5, 1) := by decide +kernel
theorem dX9_begins_44 : decode cX9_begins 44 = .ok (.iaload, 1) := by decide +kernel
theorem dX9_begins_45 : decode cX9_begins 45 = .ok (.iastore, 1) := by decide +kernel
theorem dX9_begins_46 : decode cX9_begins 46 = .ok (.iconst 0, 1) := by decide +kernel
theorem dX9_begins_47 : decode cX9_begins 47 = .ok (.istore_n 1, 1) := by decide +kernel
theorem dX9_begins_48 : decode cX9_begins 48 = .ok (.iload_n 1, 1) := by decide +kernel
theorem dX9_begins_49 : decode cX9_begins 49 = .ok (.aload_n 0, 1) := by decide +kernel
theorem dX9_begins_50 : decode cX9_begins 50 = .ok (.invokevirtual 230, 3) := by decide +kernel
theorem dX9_begins_53 : decode cX9_begins 53 = .ok (.if_icmp .ge 37, 3) := by decide +kernel
theorem dX9_begins_56 : decode cX9_begins 56 = .ok (.aload_n 0, 1) := by decide +kernel
theorem dX9_begins_57 : decode cX9_begins 57 = .ok (.getfield 63, 3) := by decide +kernel
theorem dX9_begins_60 : decode cX9_begins 60 = .ok (.iconst 1, 1) := by decide +kernel
theorem dX9_begins_61 : decode cX9_begins 61 = .ok (.iload_n 1, 1) := by decide +kernel
theorem dX9_begins_62 : decode cX9_begins 62 = .ok (.iadd, 1) := by decide +kernel
theorem dX9_begins_63 : decode cX9_begins 63 = .ok (.aload_n 0, 1) := by decide +kernel
theorem dX9_begins_64 : decode cX9_begins 64 = .ok (.getfield 23, 3) := by decide +kernel
theorem dX9_begins_67 : decode cX9_begins 67 = .ok (.iload_n 1, 1) := by decide +kernel
theorem dX9_begins_68 : decode cX9_begins 68 = .ok (.iaload, 1) := by decide +kernel
theorem dX9_begins_69 : decode cX9_begins 69 = .ok (.iastore, 1) := by decide +kernel
theorem dX9_begins_70 : decode cX9_begins 70 = .ok (.aload_n 0, 1) := by decide +kernel
theorem dX9_begins_71 : decode cX9_begins 71 = .ok (.getfield 63, 3) := by decide +kernel
theorem dX9_begins_74 : decode cX9_begins 74 = .ok (.iconst 5, 1) := by decide +kernel
theorem dX9_begins_75 : decode cX9_begins 75 = .ok (.iload_n 1, 1) := by decide +kernel
theorem dX9_begins_76 : decode cX9_begins 76 = .ok (.iadd, 1) := by decide +kernel
theorem dX9_begins_77 : decode cX9_begins 77 = .ok (.aload_n 0, 1) := by decide +kernel
theorem dX9_begins_78 : decode cX9_begins 78 = .ok (.getfield 26, 3) := by decide +kernel
theorem dX9_begins_81 : decode cX9_begins 81 = .ok (.iload_n 1, 1) := by decide +kernel
theorem dX9_begins_82 : decode cX9_begins 82 = .ok (.iaload, 1) := by decide +kernel
theorem dX9_begins_83 : decode cX9_begins 83 = .ok (.iastore, 1) := by decide +kernel
theorem dX9_begins_84 : decode cX9_begins 84 = .ok (.iinc 1 1, 3) := by decide +kernel
theorem dX9_begins_87 : decode cX9_begins 87 = .ok (.goto (-39), 3) := by decide +kernel
theorem dX9_begins_90 : decode cX9_begins 90 = .ok (.iconst 0, 1) := by decide +kernel
theorem dX9_begins_91 : decode cX9_begins 91 = .ok (.istore_n 1, 1) := by decide +kernel
theorem dX9_begins_92 : decode cX9_begins 92 = .ok (.iload_n 1, 1) := by decide +kernel
theorem dX9_begins_93 : decode cX9_begins 93 = .ok (.aload_n 0, 1) := by decide +kernel
theorem dX9_begins_94 : decode cX9_begins 94 = .ok (.invokevirtual 233, 3) := by decide +kernel
theorem dX9_begins_97 : decode cX9_begins 97 = .ok (.if_icmp .ge 32, 3) := by decide +kernel
theorem dX9_begins_100 : decode cX9_begins 100 = .ok (.aload_n 0, 1) := by decide +kernel
theorem dX9_begins_101 : decode cX9_begins 101 = .ok (.getfield 63, 3) := by decide +kernel
theorem dX9_begins_104 : decode cX9_begins 104 = .ok (.bipush 9, 2) := by decide +kernel
theorem dX9_begins_106 : decode cX9_begins 106 = .ok (.iload_n 1, 1) := by decide +kernel
theorem dX9_begins_107 : decode cX9_begins 107 = .ok (.iadd, 1) := by decide +kernel
theorem dX9_begins_108 : decode cX9_begins 108 = .ok (.aload_n 0, 1) := by decide +kernel
theorem dX9_begins_109 : decode cX9_begins 109 = .ok (.getfield 44, 3) := by decide +kernel
theorem dX9_begins_112 : decode cX9_begins 112 = .ok (.iload_n 1, 1) := by decide +kernel
theorem dX9_begins_113 : decode cX9_begins 113 = .ok (.baload, 1) := by decide +kernel
theorem dX9_begins_114 : decode cX9_begins 114 = .ok (.ifCond .eq 7, 3) := by decide +kernel
theorem dX9_begins_117 : decode cX9_begins 117 = .ok (.iconst 1, 1) := by decide +kernel
theorem dX9_begins_118 : decode cX9_begins 118 = .ok (.goto 4, 3) := by decide +kernel
theorem dX9_begins_121 : decode cX9_begins 121 = .ok (.iconst 0, 1) := by decide +kernel
theorem dX9_begins_122 : decode cX9_begins 122 = .ok (.iastore, 1) := by decide +kernel
theorem dX9_begins_123 : decode cX9_begins 123 = .ok (.iinc 1 1, 3) := by decide +kernel
theorem dX9_begins_126 : decode cX9_begins 126 = .ok (.goto (-34), 3) := by decide +kernel
theorem dX9_begins_129 : decode cX9_begins 129 = .ok (.iconst 0, 1) := by decide +kernel
theorem dX9_begins_130 : decode cX9_begins 130 = .ok (.istore_n 1, 1) := by decide +kernel
theorem dX9_begins_131 : decode cX9_begins 131 = .ok (.iload_n 1, 1) := by decide +kernel
theorem dX9_begins_132 : decode cX9_begins 132 = .ok (.aload_n 0, 1) := by decide +kernel
theorem dX9_begins_133 : decode cX9_begins 133 = .ok (.invokevirtual 236, 3) := by decide +kernel
theorem dX9_begins_136 : decode cX9_begins 136 = .ok (.if_icmp .ge 39, 3) := by decide +kernel
theorem dX9_begins_139 : decode cX9_begins 139 = .ok (.aload_n 0, 1) := by decide +kernel
theorem dX9_begins_140 : decode cX9_begins 140 = .ok (.getfield 63, 3) := by decide +kernel
theorem dX9_begins_143 : decode cX9_begins 143 = .ok (.bipush 19, 2) := by decide +kernel
theorem dX9_begins_145 : decode cX9_begins 145 = .ok (.iload_n 1, 1) := by decide +kernel
theorem dX9_begins_146 : decode cX9_begins 146 = .ok (.iadd, 1) := by decide +kernel
theorem dX9_begins_147 : decode cX9_begins 147 = .ok (.aload_n 0, 1) := by decide +kernel
theorem dX9_begins_148 : decode cX9_begins 148 = .ok (.getfield 53, 3) := by decide +kernel
theorem dX9_begins_151 : decode cX9_begins 151 = .ok (.iload_n 1, 1) := by decide +kernel
theorem dX9_begins_152 : decode cX9_begins 152 = .ok (.iaload, 1) := by decide +kernel
theorem dX9_begins_153 : decode cX9_begins 153 = .ok (.iastore, 1) := by decide +kernel
theorem dX9_begins_154 : decode cX9_begins 154 = .ok (.aload_n 0, 1) := by decide +kernel
theorem dX9_begins_155 : decode cX9_begins 155 = .ok (.getfield 63, 3) := by decide +kernel
theorem dX9_begins_158 : decode cX9_begins 158 = .ok (.bipush 43, 2) := by decide +kernel
theorem dX9_begins_160 : decode cX9_begins 160 = .ok (.iload_n 1, 1) := by decide +kernel
theorem dX9_begins_161 : decode cX9_begins 161 = .ok (.iadd, 1) := by decide +kernel
theorem dX9_begins_162 : decode cX9_begins 162 = .ok (.aload_n 0, 1) := by decide +kernel
theorem dX9_begins_163 : decode cX9_begins 163 = .ok (.getfield 56, 3) := by decide +kernel
theorem dX9_begins_166 : decode cX9_begins 166 = .ok (.iload_n 1, 1) := by decide +kernel
theorem dX9_begins_167 : decode cX9_begins 167 = .ok (.iaload, 1) := by decide +kernel
theorem dX9_begins_168 : decode cX9_begins 168 = .ok (.iastore, 1) := by decide +kernel
theorem dX9_begins_169 : decode cX9_begins 169 = .ok (.iinc 1 1, 3) := by decide +kernel
theorem dX9_begins_172 : decode cX9_begins 172 = .ok (.goto (-41), 3) := by decide +kernel
theorem dX9_begins_175 : decode cX9_begins 175 = .ok (.return_, 1) := by decide +kernel
theorem dX9_lays_0 : decode cX9_lays 0 = .ok (.iconst 0, 1) := by decide +kernel
theorem dX9_lays_1 : decode cX9_lays 1 = .ok (.istore_n 2, 1) := by decide +kernel
theorem dX9_lays_2 : decode cX9_lays 2 = .ok (.iload_n 2, 1) := by decide +kernel
theorem dX9_lays_3 : decode cX9_lays 3 = .ok (.bipush 68, 2) := by decide +kernel
theorem dX9_lays_5 : decode cX9_lays 5 = .ok (.if_icmp .ge 26, 3) := by decide +kernel
theorem dX9_lays_8 : decode cX9_lays 8 = .ok (.aload_n 0, 1) := by decide +kernel
theorem dX9_lays_9 : decode cX9_lays 9 = .ok (.getfield 66, 3) := by decide +kernel
theorem dX9_lays_12 : decode cX9_lays 12 = .ok (.bipush 68, 2) := by decide +kernel
theorem dX9_lays_14 : decode cX9_lays 14 = .ok (.iload_n 1, 1) := by decide +kernel
theorem dX9_lays_15 : decode cX9_lays 15 = .ok (.imul, 1) := by decide +kernel
theorem dX9_lays_16 : decode cX9_lays 16 = .ok (.iload_n 2, 1) := by decide +kernel
theorem dX9_lays_17 : decode cX9_lays 17 = .ok (.iadd, 1) := by decide +kernel
theorem dX9_lays_18 : decode cX9_lays 18 = .ok (.aload_n 0, 1) := by decide +kernel
theorem dX9_lays_19 : decode cX9_lays 19 = .ok (.getfield 63, 3) := by decide +kernel
theorem dX9_lays_22 : decode cX9_lays 22 = .ok (.iload_n 2, 1) := by decide +kernel
theorem dX9_lays_23 : decode cX9_lays 23 = .ok (.iaload, 1) := by decide +kernel
theorem dX9_lays_24 : decode cX9_lays 24 = .ok (.iastore, 1) := by decide +kernel
theorem dX9_lays_25 : decode cX9_lays 25 = .ok (.iinc 2 1, 3) := by decide +kernel
theorem dX9_lays_28 : decode cX9_lays 28 = .ok (.goto (-26), 3) := by decide +kernel
theorem dX9_lays_31 : decode cX9_lays 31 = .ok (.return_, 1) := by decide +kernel
theorem dX9_laysBack_0 : decode cX9_laysBack 0 = .ok (.iconst 0, 1) := by decide +kernel
theorem dX9_laysBack_1 : decode cX9_laysBack 1 = .ok (.istore_n 2, 1) := by decide +kernel
theorem dX9_laysBack_2 : decode cX9_laysBack 2 = .ok (.iload_n 2, 1) := by decide +kernel
theorem dX9_laysBack_3 : decode cX9_laysBack 3 = .ok (.bipush 68, 2) := by decide +kernel
theorem dX9_laysBack_5 : decode cX9_laysBack 5 = .ok (.if_icmp .ge 26, 3) := by decide +kernel
theorem dX9_laysBack_8 : decode cX9_laysBack 8 = .ok (.aload_n 0, 1) := by decide +kernel
theorem dX9_laysBack_9 : decode cX9_laysBack 9 = .ok (.getfield 63, 3) := by decide +kernel
theorem dX9_laysBack_12 : decode cX9_laysBack 12 = .ok (.iload_n 2, 1) := by decide +kernel
theorem dX9_laysBack_13 : decode cX9_laysBack 13 = .ok (.aload_n 0, 1) := by decide +kernel
theorem dX9_laysBack_14 : decode cX9_laysBack 14 = .ok (.getfield 66, 3) := by decide +kernel
theorem dX9_laysBack_17 : decode cX9_laysBack 17 = .ok (.bipush 68, 2) := by decide +kernel
theorem dX9_laysBack_19 : decode cX9_laysBack 19 = .ok (.iload_n 1, 1) := by decide +kernel
theorem dX9_laysBack_20 : decode cX9_laysBack 20 = .ok (.imul, 1) := by decide +kernel
theorem dX9_laysBack_21 : decode cX9_laysBack 21 = .ok (.iload_n 2, 1) := by decide +kernel
theorem dX9_laysBack_22 : decode cX9_laysBack 22 = .ok (.iadd, 1) := by decide +kernel
theorem dX9_laysBack_23 : decode cX9_laysBack 23 = .ok (.iaload, 1) := by decide +kernel
theorem dX9_laysBack_24 : decode cX9_laysBack 24 = .ok (.iastore, 1) := by decide +kernel
theorem dX9_laysBack_25 : decode cX9_laysBack 25 = .ok (.iinc 2 1, 3) := by decide +kernel
theorem dX9_laysBack_28 : decode cX9_laysBack 28 = .ok (.goto (-26), 3) := by decide +kernel
theorem dX9_laysBack_31 : decode cX9_laysBack 31 = .ok (.return_, 1) := by decide +kernel
theorem dX9_remembers_0 : decode cX9_remembers 0 = .ok (.aload_n 0, 1) := by decide +kernel
theorem dX9_remembers_1 : decode cX9_remembers 1 = .ok (.getfield 223, 3) := by decide +kernel
theorem dX9_remembers_4 : decode cX9_remembers 4 = .ok (.bipush 20, 2) := by decide +kernel
theorem dX9_remembers_6 : decode cX9_remembers 6 = .ok (.if_icmp .ne 43, 3) := by decide +kernel
theorem dX9_remembers_9 : decode cX9_remembers 9 = .ok (.iconst 0, 1) := by decide +kernel
theorem dX9_remembers_10 : decode cX9_remembers 10 = .ok (.istore_n 1, 1) := by decide +kernel
theorem dX9_remembers_11 : decode cX9_remembers 11 = .ok (.iload_n 1, 1) := by decide +kernel
theorem dX9_remembers_12 : decode cX9_remembers 12 = .ok (.sipush 1292, 3) := by decide +kernel
theorem dX9_remembers_15 : decode cX9_remembers 15 = .ok (.if_icmp .ge 24, 3) := by decide +kernel
theorem dX9_remembers_18 : decode cX9_remembers 18 = .ok (.aload_n 0, 1) := by decide +kernel
theorem dX9_remembers_19 : decode cX9_remembers 19 = .ok (.getfield 66, 3) := by decide +kernel
theorem dX9_remembers_22 : decode cX9_remembers 22 = .ok (.iload_n 1, 1) := by decide +kernel
theorem dX9_remembers_23 : decode cX9_remembers 23 = .ok (.aload_n 0, 1) := by decide +kernel
theorem dX9_remembers_24 : decode cX9_remembers 24 = .ok (.getfield 66, 3) := by decide +kernel
theorem dX9_remembers_27 : decode cX9_remembers 27 = .ok (.bipush 68, 2) := by decide +kernel
theorem dX9_remembers_29 : decode cX9_remembers 29 = .ok (.iload_n 1, 1) := by decide +kernel
theorem dX9_remembers_30 : decode cX9_remembers 30 = .ok (.iadd, 1) := by decide +kernel
theorem dX9_remembers_31 : decode cX9_remembers 31 = .ok (.iaload, 1) := by decide +kernel
theorem dX9_remembers_32 : decode cX9_remembers 32 = .ok (.iastore, 1) := by decide +kernel
theorem dX9_remembers_33 : decode cX9_remembers 33 = .ok (.iinc 1 1, 3) := by decide +kernel
theorem dX9_remembers_36 : decode cX9_remembers 36 = .ok (.goto (-25), 3) := by decide +kernel
theorem dX9_remembers_39 : decode cX9_remembers 39 = .ok (.aload_n 0, 1) := by decide +kernel
theorem dX9_remembers_40 : decode cX9_remembers 40 = .ok (.dup, 1) := by decide +kernel
theorem dX9_remembers_41 : decode cX9_remembers 41 = .ok (.getfield 223, 3) := by decide +kernel
theorem dX9_remembers_44 : decode cX9_remembers 44 = .ok (.iconst 1, 1) := by decide +kernel
theorem dX9_remembers_45 : decode cX9_remembers 45 = .ok (.isub, 1) := by decide +kernel
theorem dX9_remembers_46 : decode cX9_remembers 46 = .ok (.putfield 223, 3) := by decide +kernel
theorem dX9_remembers_49 : decode cX9_remembers 49 = .ok (.aload_n 0, 1) := by decide +kernel
theorem dX9_remembers_50 : decode cX9_remembers 50 = .ok (.aload_n 0, 1) := by decide +kernel
theorem dX9_remembers_51 : decode cX9_remembers 51 = .ok (.getfield 223, 3) := by decide +kernel
theorem dX9_remembers_54 : decode cX9_remembers 54 = .ok (.invokevirtual 239, 3) := by decide +kernel
theorem dX9_remembers_57 : decode cX9_remembers 57 = .ok (.aload_n 0, 1) := by decide +kernel
theorem dX9_remembers_58 : decode cX9_remembers 58 = .ok (.dup, 1) := by decide +kernel
theorem dX9_remembers_59 : decode cX9_remembers 59 = .ok (.getfield 223, 3) := by decide +kernel
theorem dX9_remembers_62 : decode cX9_remembers 62 = .ok (.iconst 1, 1) := by decide +kernel
theorem dX9_remembers_63 : decode cX9_remembers 63 = .ok (.iadd, 1) := by decide +kernel
theorem dX9_remembers_64 : decode cX9_remembers 64 = .ok (.putfield 223, 3) := by decide +kernel
theorem dX9_remembers_67 : decode cX9_remembers 67 = .ok (.return_, 1) := by decide +kernel
theorem dX9_undo_0 : decode cX9_undo 0 = .ok (.aload_n 0, 1) := by decide +kernel
theorem dX9_undo_1 : decode cX9_undo 1 = .ok (.iconst 0, 1) := by decide +kernel
theorem dX9_undo_2 : decode cX9_undo 2 = .ok (.putfield 103, 3) := by decide +kernel
theorem dX9_undo_5 : decode cX9_undo 5 = .ok (.aload_n 0, 1) := by decide +kernel
theorem dX9_undo_6 : decode cX9_undo 6 = .ok (.getfield 223, 3) := by decide +kernel
theorem dX9_undo_9 : decode cX9_undo 9 = .ok (.ifCond .ne 5, 3) := by decide +kernel
theorem dX9_undo_12 : decode cX9_undo 12 = .ok (.iconst (-1), 1) := by decide +kernel
theorem dX9_undo_13 : decode cX9_undo 13 = .ok (.ireturn, 1) := by decide +kernel
theorem dX9_undo_14 : decode cX9_undo 14 = .ok (.aload_n 0, 1) := by decide +kernel
theorem dX9_undo_15 : decode cX9_undo 15 = .ok (.dup, 1) := by decide +kernel
theorem dX9_undo_16 : decode cX9_undo 16 = .ok (.getfield 223, 3) := by decide +kernel
theorem dX9_undo_19 : decode cX9_undo 19 = .ok (.iconst 1, 1) := by decide +kernel
theorem dX9_undo_20 : decode cX9_undo 20 = .ok (.isub, 1) := by decide +kernel
theorem dX9_undo_21 : decode cX9_undo 21 = .ok (.putfield 223, 3) := by decide +kernel
theorem dX9_undo_24 : decode cX9_undo 24 = .ok (.aload_n 0, 1) := by decide +kernel
theorem dX9_undo_25 : decode cX9_undo 25 = .ok (.aload_n 0, 1) := by decide +kernel
theorem dX9_undo_26 : decode cX9_undo 26 = .ok (.getfield 223, 3) := by decide +kernel
theorem dX9_undo_29 : decode cX9_undo 29 = .ok (.invokevirtual 242, 3) := by decide +kernel
theorem dX9_undo_32 : decode cX9_undo 32 = .ok (.aload_n 0, 1) := by decide +kernel
theorem dX9_undo_33 : decode cX9_undo 33 = .ok (.getfield 223, 3) := by decide +kernel
theorem dX9_undo_36 : decode cX9_undo 36 = .ok (.ireturn, 1) := by decide +kernel
theorem dX9_keep_0 : decode cX9_keep 0 = .ok (.aload_n 0, 1) := by decide +kernel
theorem dX9_keep_1 : decode cX9_keep 1 = .ok (.iconst 0, 1) := by decide +kernel
theorem dX9_keep_2 : decode cX9_keep 2 = .ok (.putfield 103, 3) := by decide +kernel
theorem dX9_keep_5 : decode cX9_keep 5 = .ok (.aload_n 0, 1) := by decide +kernel
theorem dX9_keep_6 : decode cX9_keep 6 = .ok (.bipush 20, 2) := by decide +kernel
theorem dX9_keep_8 : decode cX9_keep 8 = .ok (.invokevirtual 239, 3) := by decide +kernel
theorem dX9_keep_11 : decode cX9_keep 11 = .ok (.aload_n 0, 1) := by decide +kernel
theorem dX9_keep_12 : decode cX9_keep 12 = .ok (.iconst 1, 1) := by decide +kernel
theorem dX9_keep_13 : decode cX9_keep 13 = .ok (.putfield 226, 3) := by decide +kernel
theorem dX9_keep_16 : decode cX9_keep 16 = .ok (.aload_n 0, 1) := by decide +kernel
theorem dX9_keep_17 : decode cX9_keep 17 = .ok (.getfield 63, 3) := by decide +kernel
theorem dX9_keep_20 : decode cX9_keep 20 = .ok (.iconst 0, 1) := by decide +kernel
theorem dX9_keep_21 : decode cX9_keep 21 = .ok (.iaload, 1) := by decide +kernel
theorem dX9_keep_22 : decode cX9_keep 22 = .ok (.ireturn, 1) := by decide +kernel
theorem dX9_back_0 : decode cX9_back 0 = .ok (.aload_n 0, 1) := by decide +kernel
theorem dX9_back_1 : decode cX9_back 1 = .ok (.iconst 0, 1) := by decide +kernel
theorem dX9_back_2 : decode cX9_back 2 = .ok (.putfield 103, 3) := by decide +kernel
theorem dX9_back_5 : decode cX9_back 5 = .ok (.aload_n 0, 1) := by decide +kernel
theorem dX9_back_6 : decode cX9_back 6 = .ok (.getfield 226, 3) := by decide +kernel
theorem dX9_back_9 : decode cX9_back 9 = .ok (.ifCond .ne 5, 3) := by decide +kernel
theorem dX9_back_12 : decode cX9_back 12 = .ok (.iconst (-1), 1) := by decide +kernel
theorem dX9_back_13 : decode cX9_back 13 = .ok (.ireturn, 1) := by decide +kernel
theorem dX9_back_14 : decode cX9_back 14 = .ok (.aload_n 0, 1) := by decide +kernel
theorem dX9_back_15 : decode cX9_back 15 = .ok (.bipush 20, 2) := by decide +kernel
theorem dX9_back_17 : decode cX9_back 17 = .ok (.invokevirtual 242, 3) := by decide +kernel
theorem dX9_back_20 : decode cX9_back 20 = .ok (.aload_n 0, 1) := by decide +kernel
theorem dX9_back_21 : decode cX9_back 21 = .ok (.iconst 0, 1) := by decide +kernel
theorem dX9_back_22 : decode cX9_back 22 = .ok (.putfield 223, 3) := by decide +kernel
theorem dX9_back_25 : decode cX9_back 25 = .ok (.aload_n 0, 1) := by decide +kernel
theorem dX9_back_26 : decode cX9_back 26 = .ok (.getfield 63, 3) := by decide +kernel
theorem dX9_back_29 : decode cX9_back 29 = .ok (.iconst 0, 1) := by decide +kernel
theorem dX9_back_30 : decode cX9_back 30 = .ok (.iaload, 1) := by decide +kernel
theorem dX9_back_31 : decode cX9_back 31 = .ok (.ireturn, 1) := by decide +kernel
theorem dX9_isPhase_0 : decode cX9_isPhase 0 = .ok (.iload_n 1, 1) := by decide +kernel
theorem dX9_isPhase_1 : decode cX9_isPhase 1 = .ok (.ifCond .lt 15, 3) := by decide +kernel
theorem dX9_isPhase_4 : decode cX9_isPhase 4 = .ok (.iload_n 1, 1) := by decide +kernel
theorem dX9_isPhase_5 : decode cX9_isPhase 5 = .ok (.aload_n 0, 1) := by decide +kernel
theorem dX9_isPhase_6 : decode cX9_isPhase 6 = .ok (.invokevirtual 230, 3) := by decide +kernel
theorem dX9_isPhase_9 : decode cX9_isPhase 9 = .ok (.if_icmp .ge 7, 3) := by decide +kernel
theorem dX9_isPhase_12 : decode cX9_isPhase 12 = .ok (.iconst 1, 1) := by decide +kernel
theorem dX9_isPhase_13 : decode cX9_isPhase 13 = .ok (.goto 4, 3) := by decide +kernel
theorem dX9_isPhase_16 : decode cX9_isPhase 16 = .ok (.iconst 0, 1) := by decide +kernel
theorem dX9_isPhase_17 : decode cX9_isPhase 17 = .ok (.ireturn, 1) := by decide +kernel
theorem dX9_isCell_0 : decode cX9_isCell 0 = .ok (.iload_n 1, 1) := by decide +kernel
theorem dX9_isCell_1 : decode cX9_isCell 1 = .ok (.ifCond .lt 15, 3) := by decide +kernel
theorem dX9_isCell_4 : decode cX9_isCell 4 = .ok (.iload_n 1, 1) := by decide +kernel
theorem dX9_isCell_5 : decode cX9_isCell 5 = .ok (.aload_n 0, 1) := by decide +kernel
theorem dX9_isCell_6 : decode cX9_isCell 6 = .ok (.invokevirtual 233, 3) := by decide +kernel
theorem dX9_isCell_9 : decode cX9_isCell 9 = .ok (.if_icmp .ge 7, 3) := by decide +kernel
theorem dX9_isCell_12 : decode cX9_isCell 12 = .ok (.iconst 1, 1) := by decide +kernel
theorem dX9_isCell_13 : decode cX9_isCell 13 = .ok (.goto 4, 3) := by decide +kernel
theorem dX9_isCell_16 : decode cX9_isCell 16 = .ok (.iconst 0, 1) := by decide +kernel
theorem dX9_isCell_17 : decode cX9_isCell 17 = .ok (.ireturn, 1) := by decide +kernel
theorem dX9_isPath_0 : decode cX9_isPath 0 = .ok (.iload_n 1, 1) := by decide +kernel
theorem dX9_isPath_1 : decode cX9_isPath 1 = .ok (.ifCond .lt 15, 3) := by decide +kernel
theorem dX9_isPath_4 : decode cX9_isPath 4 = .ok (.iload_n 1, 1) := by decide +kernel
theorem dX9_isPath_5 : decode cX9_isPath 5 = .ok (.aload_n 0, 1) := by decide +kernel
theorem dX9_isPath_6 : decode cX9_isPath 6 = .ok (.invokevirtual 236, 3) := by decide +kernel
theorem dX9_isPath_9 : decode cX9_isPath 9 = .ok (.if_icmp .ge 7, 3) := by decide +kernel
theorem dX9_isPath_12 : decode cX9_isPath 12 = .ok (.iconst 1, 1) := by decide +kernel
theorem dX9_isPath_13 : decode cX9_isPath 13 = .ok (.goto 4, 3) := by decide +kernel
theorem dX9_isPath_16 : decode cX9_isPath 16 = .ok (.iconst 0, 1) := by decide +kernel
theorem dX9_isPath_17 : decode cX9_isPath 17 = .ok (.ireturn, 1) := by decide +kernel
theorem dX9_isFlop_0 : decode cX9_isFlop 0 = .ok (.aload_n 0, 1) := by decide +kernel
theorem dX9_isFlop_1 : decode cX9_isFlop 1 = .ok (.getfield 63, 3) := by decide +kernel
theorem dX9_isFlop_4 : decode cX9_isFlop 4 = .ok (.bipush 9, 2) := by decide +kernel
theorem dX9_isFlop_6 : decode cX9_isFlop 6 = .ok (.iload_n 1, 1) := by decide +kernel
theorem dX9_isFlop_7 : decode cX9_isFlop 7 = .ok (.iadd, 1) := by decide +kernel
theorem dX9_isFlop_8 : decode cX9_isFlop 8 = .ok (.iaload, 1) := by decide +kernel
theorem dX9_isFlop_9 : decode cX9_isFlop 9 = .ok (.iconst 1, 1) := by decide +kernel
theorem dX9_isFlop_10 : decode cX9_isFlop 10 = .ok (.if_icmp .ne 7, 3) := by decide +kernel
theorem dX9_isFlop_13 : decode cX9_isFlop 13 = .ok (.iconst 1, 1) := by decide +kernel
theorem dX9_isFlop_14 : decode cX9_isFlop 14 = .ok (.goto 4, 3) := by decide +kernel
theorem dX9_isFlop_17 : decode cX9_isFlop 17 = .ok (.iconst 0, 1) := by decide +kernel
theorem dX9_isFlop_18 : decode cX9_isFlop 18 = .ok (.ireturn, 1) := by decide +kernel
theorem dX9_period_0 : decode cX9_period 0 = .ok (.aload_n 0, 1) := by decide +kernel
theorem dX9_period_1 : decode cX9_period 1 = .ok (.iconst 0, 1) := by decide +kernel
theorem dX9_period_2 : decode cX9_period 2 = .ok (.putfield 103, 3) := by decide +kernel
theorem dX9_period_5 : decode cX9_period 5 = .ok (.iload_n 1, 1) := by decide +kernel
theorem dX9_period_6 : decode cX9_period 6 = .ok (.iconst 1, 1) := by decide +kernel
theorem dX9_period_7 : decode cX9_period 7 = .ok (.if_icmp .lt 10, 3) := by decide +kernel
theorem dX9_period_10 : decode cX9_period 10 = .ok (.iload_n 1, 1) := by decide +kernel
theorem dX9_period_11 : decode cX9_period 11 = .ok (.sipush 9999, 3) := by decide +kernel
theorem dX9_period_14 : decode cX9_period 14 = .ok (.if_icmp .le 5, 3) := by decide +kernel
theorem dX9_period_17 : decode cX9_period 17 = .ok (.iconst (-1), 1) := by decide +kernel
theorem dX9_period_18 : decode cX9_period 18 = .ok (.ireturn, 1) := by decide +kernel
theorem dX9_period_19 : decode cX9_period 19 = .ok (.aload_n 0, 1) := by decide +kernel
theorem dX9_period_20 : decode cX9_period 20 = .ok (.getfield 63, 3) := by decide +kernel
theorem dX9_period_23 : decode cX9_period 23 = .ok (.iconst 0, 1) := by decide +kernel
theorem dX9_period_24 : decode cX9_period 24 = .ok (.iaload, 1) := by decide +kernel
theorem dX9_period_25 : decode cX9_period 25 = .ok (.istore_n 2, 1) := by decide +kernel
theorem dX9_period_26 : decode cX9_period 26 = .ok (.aload_n 0, 1) := by decide +kernel
theorem dX9_period_27 : decode cX9_period 27 = .ok (.invokevirtual 245, 3) := by decide +kernel
theorem dX9_period_30 : decode cX9_period 30 = .ok (.aload_n 0, 1) := by decide +kernel
theorem dX9_period_31 : decode cX9_period 31 = .ok (.getfield 63, 3) := by decide +kernel
theorem dX9_period_34 : decode cX9_period 34 = .ok (.iconst 0, 1) := by decide +kernel
theorem dX9_period_35 : decode cX9_period 35 = .ok (.iload_n 1, 1) := by decide +kernel
theorem dX9_period_36 : decode cX9_period 36 = .ok (.iastore, 1) := by decide +kernel
theorem dX9_period_37 : decode cX9_period 37 = .ok (.iload_n 2, 1) := by decide +kernel
theorem dX9_period_38 : decode cX9_period 38 = .ok (.ireturn, 1) := by decide +kernel
theorem dX9_skew_0 : decode cX9_skew 0 = .ok (.aload_n 0, 1) := by decide +kernel
theorem dX9_skew_1 : decode cX9_skew 1 = .ok (.iconst 0, 1) := by decide +kernel
theorem dX9_skew_2 : decode cX9_skew 2 = .ok (.putfield 103, 3) := by decide +kernel
theorem dX9_skew_5 : decode cX9_skew 5 = .ok (.iload_n 1, 1) := by decide +kernel
theorem dX9_skew_6 : decode cX9_skew 6 = .ok (.ifCond .lt 9, 3) := by decide +kernel
theorem dX9_skew_9 : decode cX9_skew 9 = .ok (.iload_n 1, 1) := by decide +kernel
theorem dX9_skew_10 : decode cX9_skew 10 = .ok (.bipush 99, 2) := by decide +kernel
theorem dX9_skew_12 : decode cX9_skew 12 = .ok (.if_icmp .le 5, 3) := by decide +kernel
theorem dX9_skew_15 : decode cX9_skew 15 = .ok (.iconst (-1), 1) := by decide +kernel
theorem dX9_skew_16 : decode cX9_skew 16 = .ok (.ireturn, 1) := by decide +kernel
theorem dX9_skew_17 : decode cX9_skew 17 = .ok (.aload_n 0, 1) := by decide +kernel
theorem dX9_skew_18 : decode cX9_skew 18 = .ok (.getfield 63, 3) := by decide +kernel
theorem dX9_skew_21 : decode cX9_skew 21 = .ok (.bipush 67, 2) := by decide +kernel
theorem dX9_skew_23 : decode cX9_skew 23 = .ok (.iaload, 1) := by decide +kernel
theorem dX9_skew_24 : decode cX9_skew 24 = .ok (.istore_n 2, 1) := by decide +kernel
theorem dX9_skew_25 : decode cX9_skew 25 = .ok (.aload_n 0, 1) := by decide +kernel
theorem dX9_skew_26 : decode cX9_skew 26 = .ok (.invokevirtual 245, 3) := by decide +kernel
theorem dX9_skew_29 : decode cX9_skew 29 = .ok (.aload_n 0, 1) := by decide +kernel
theorem dX9_skew_30 : decode cX9_skew 30 = .ok (.getfield 63, 3) := by decide +kernel
theorem dX9_skew_33 : decode cX9_skew 33 = .ok (.bipush 67, 2) := by decide +kernel
theorem dX9_skew_35 : decode cX9_skew 35 = .ok (.iload_n 1, 1) := by decide +kernel
theorem dX9_skew_36 : decode cX9_skew 36 = .ok (.iastore, 1) := by decide +kernel
theorem dX9_skew_37 : decode cX9_skew 37 = .ok (.iload_n 2, 1) := by decide +kernel
theorem dX9_skew_38 : decode cX9_skew 38 = .ok (.ireturn, 1) := by decide +kernel
theorem dX9_moreBy_0 : decode cX9_moreBy 0 = .ok (.aload_n 0, 1) := by decide +kernel
theorem dX9_moreBy_1 : decode cX9_moreBy 1 = .ok (.getfield 50, 3) := by decide +kernel
theorem dX9_moreBy_4 : decode cX9_moreBy 4 = .ok (.iload_n 1, 1) := by decide +kernel
theorem dX9_moreBy_5 : decode cX9_moreBy 5 = .ok (.iaload, 1) := by decide +kernel
theorem dX9_moreBy_6 : decode cX9_moreBy 6 = .ok (.iload_n 2, 1) := by decide +kernel
theorem dX9_moreBy_7 : decode cX9_moreBy 7 = .ok (.if_icmp .ne 7, 3) := by decide +kernel
theorem dX9_moreBy_10 : decode cX9_moreBy 10 = .ok (.iload_n 3, 1) := by decide +kernel
theorem dX9_moreBy_11 : decode cX9_moreBy 11 = .ok (.goto 4, 3) := by decide +kernel
theorem dX9_moreBy_14 : decode cX9_moreBy 14 = .ok (.iconst 0, 1) := by decide +kernel
theorem dX9_moreBy_15 : decode cX9_moreBy 15 = .ok (.aload_n 0, 1) := by decide +kernel
theorem dX9_moreBy_16 : decode cX9_moreBy 16 = .ok (.getfield 47, 3) := by decide +kernel
theorem dX9_moreBy_19 : decode cX9_moreBy 19 = .ok (.iload_n 1, 1) := by decide +kernel
theorem dX9_moreBy_20 : decode cX9_moreBy 20 = .ok (.iaload, 1) := by decide +kernel
theorem dX9_moreBy_21 : decode cX9_moreBy 21 = .ok (.iload_n 2, 1) := by decide +kernel
theorem dX9_moreBy_22 : decode cX9_moreBy 22 = .ok (.if_icmp .ne 7, 3) := by decide +kernel
theorem dX9_moreBy_25 : decode cX9_moreBy 25 = .ok (.iload_n 3, 1) := by decide +kernel
theorem dX9_moreBy_26 : decode cX9_moreBy 26 = .ok (.goto 4, 3) := by decide +kernel
theorem dX9_moreBy_29 : decode cX9_moreBy 29 = .ok (.iconst 0, 1) := by decide +kernel
theorem dX9_moreBy_30 : decode cX9_moreBy 30 = .ok (.isub, 1) := by decide +kernel
theorem dX9_moreBy_31 : decode cX9_moreBy 31 = .ok (.ireturn, 1) := by decide +kernel
theorem dX9_canMove_0 : decode cX9_canMove 0 = .ok (.iconst 0, 1) := by decide +kernel
theorem dX9_canMove_1 : decode cX9_canMove 1 = .ok (.istore_n 3, 1) := by decide +kernel
theorem dX9_canMove_2 : decode cX9_canMove 2 = .ok (.iload_n 3, 1) := by decide +kernel
theorem dX9_canMove_3 : decode cX9_canMove 3 = .ok (.aload_n 0, 1) := by decide +kernel
theorem dX9_canMove_4 : decode cX9_canMove 4 = .ok (.invokevirtual 236, 3) := by decide +kernel
theorem dX9_canMove_7 : decode cX9_canMove 7 = .ok (.if_icmp .ge 53, 3) := by decide +kernel
theorem dX9_canMove_10 : decode cX9_canMove 10 = .ok (.aload_n 0, 1) := by decide +kernel
theorem dX9_canMove_11 : decode cX9_canMove 11 = .ok (.iload_n 3, 1) := by decide +kernel
theorem dX9_canMove_12 : decode cX9_canMove 12 = .ok (.iload_n 1, 1) := by decide +kernel
theorem dX9_canMove_13 : decode cX9_canMove 13 = .ok (.iload_n 2, 1) := by decide +kernel
theorem dX9_canMove_14 : decode cX9_canMove 14 = .ok (.invokevirtual 248, 3) := by decide +kernel
theorem dX9_canMove_17 : decode cX9_canMove 17 = .ok (.istore 4, 2) := by decide +kernel
theorem dX9_canMove_19 : decode cX9_canMove 19 = .ok (.aload_n 0, 1) := by decide +kernel
theorem dX9_canMove_20 : decode cX9_canMove 20 = .ok (.getfield 63, 3) := by decide +kernel
theorem dX9_canMove_23 : decode cX9_canMove 23 = .ok (.bipush 43, 2) := by decide +kernel
theorem dX9_canMove_25 : decode cX9_canMove 25 = .ok (.iload_n 3, 1) := by decide +kernel
theorem dX9_canMove_26 : decode cX9_canMove 26 = .ok (.iadd, 1) := by decide +kernel
theorem dX9_canMove_27 : decode cX9_canMove 27 = .ok (.iaload, 1) := by decide +kernel
theorem dX9_canMove_28 : decode cX9_canMove 28 = .ok (.iload 4, 2) := by decide +kernel
theorem dX9_canMove_30 : decode cX9_canMove 30 = .ok (.iadd, 1) := by decide +kernel
theorem dX9_canMove_31 : decode cX9_canMove 31 = .ok (.ifCond .lt 21, 3) := by decide +kernel
theorem dX9_canMove_34 : decode cX9_canMove 34 = .ok (.aload_n 0, 1) := by decide +kernel
theorem dX9_canMove_35 : decode cX9_canMove 35 = .ok (.getfield 63, 3) := by decide +kernel
theorem dX9_canMove_38 : decode cX9_canMove 38 = .ok (.bipush 19, 2) := by decide +kernel
theorem dX9_canMove_40 : decode cX9_canMove 40 = .ok (.iload_n 3, 1) := by decide +kernel
theorem dX9_canMove_41 : decode cX9_canMove 41 = .ok (.iadd, 1) := by decide +kernel
theorem dX9_canMove_42 : decode cX9_canMove 42 = .ok (.iaload, 1) := by decide +kernel
theorem dX9_canMove_43 : decode cX9_canMove 43 = .ok (.iload 4, 2) := by decide +kernel
theorem dX9_canMove_45 : decode cX9_canMove 45 = .ok (.iadd, 1) := by decide +kernel
theorem dX9_canMove_46 : decode cX9_canMove 46 = .ok (.sipush 999, 3) := by decide +kernel
theorem dX9_canMove_49 : decode cX9_canMove 49 = .ok (.if_icmp .le 5, 3) := by decide +kernel
theorem dX9_canMove_52 : decode cX9_canMove 52 = .ok (.iconst 0, 1) := by decide +kernel
theorem dX9_canMove_53 : decode cX9_canMove 53 = .ok (.ireturn, 1) := by decide +kernel
theorem dX9_canMove_54 : decode cX9_canMove 54 = .ok (.iinc 3 1, 3) := by decide +kernel
theorem dX9_canMove_57 : decode cX9_canMove 57 = .ok (.goto (-55), 3) := by decide +kernel
theorem dX9_canMove_60 : decode cX9_canMove 60 = .ok (.iconst 1, 1) := by decide +kernel
theorem dX9_canMove_61 : decode cX9_canMove 61 = .ok (.ireturn, 1) := by decide +kernel
theorem dX9_moves_0 : decode cX9_moves 0 = .ok (.iconst 0, 1) := by decide +kernel
theorem dX9_moves_1 : decode cX9_moves 1 = .ok (.istore_n 3, 1) := by decide +kernel
theorem dX9_moves_2 : decode cX9_moves 2 = .ok (.iload_n 3, 1) := by decide +kernel
theorem dX9_moves_3 : decode cX9_moves 3 = .ok (.aload_n 0, 1) := by decide +kernel
theorem dX9_moves_4 : decode cX9_moves 4 = .ok (.invokevirtual 236, 3) := by decide +kernel
theorem dX9_moves_7 : decode cX9_moves 7 = .ok (.if_icmp .ge 46, 3) := by decide +kernel
theorem dX9_moves_10 : decode cX9_moves 10 = .ok (.aload_n 0, 1) := by decide +kernel
theorem dX9_moves_11 : decode cX9_moves 11 = .ok (.iload_n 3, 1) := by decide +kernel
theorem dX9_moves_12 : decode cX9_moves 12 = .ok (.iload_n 1, 1) := by decide +kernel
theorem dX9_moves_13 : decode cX9_moves 13 = .ok (.iload_n 2, 1) := by decide +kernel
theorem dX9_moves_14 : decode cX9_moves 14 = .ok (.invokevirtual 248, 3) := by decide +kernel
theorem dX9_moves_17 : decode cX9_moves 17 = .ok (.istore 4, 2) := by decide +kernel
theorem dX9_moves_19 : decode cX9_moves 19 = .ok (.aload_n 0, 1) := by decide +kernel
theorem dX9_moves_20 : decode cX9_moves 20 = .ok (.getfield 63, 3) := by decide +kernel
theorem dX9_moves_23 : decode cX9_moves 23 = .ok (.bipush 19, 2) := by decide +kernel
theorem dX9_moves_25 : decode cX9_moves 25 = .ok (.iload_n 3, 1) := by decide +kernel
theorem dX9_moves_26 : decode cX9_moves 26 = .ok (.iadd, 1) := by decide +kernel
theorem dX9_moves_27 : decode cX9_moves 27 = .ok (.dup2, 1) := by decide +kernel
theorem dX9_moves_28 : decode cX9_moves 28 = .ok (.iaload, 1) := by decide +kernel
theorem dX9_moves_29 : decode cX9_moves 29 = .ok (.iload 4, 2) := by decide +kernel
theorem dX9_moves_31 : decode cX9_moves 31 = .ok (.iadd, 1) := by decide +kernel
theorem dX9_moves_32 : decode cX9_moves 32 = .ok (.iastore, 1) := by decide +kernel
theorem dX9_moves_33 : decode cX9_moves 33 = .ok (.aload_n 0, 1) := by decide +kernel
theorem dX9_moves_34 : decode cX9_moves 34 = .ok (.getfield 63, 3) := by decide +kernel
theorem dX9_moves_37 : decode cX9_moves 37 = .ok (.bipush 43, 2) := by decide +kernel
theorem dX9_moves_39 : decode cX9_moves 39 = .ok (.iload_n 3, 1) := by decide +kernel
theorem dX9_moves_40 : decode cX9_moves 40 = .ok (.iadd, 1) := by decide +kernel
theorem dX9_moves_41 : decode cX9_moves 41 = .ok (.dup2, 1) := by decide +kernel
theorem dX9_moves_42 : decode cX9_moves 42 = .ok (.iaload, 1) := by decide +kernel
theorem dX9_moves_43 : decode cX9_moves 43 = .ok (.iload 4, 2) := by decide +kernel
theorem dX9_moves_45 : decode cX9_moves 45 = .ok (.iadd, 1) := by decide +kernel
theorem dX9_moves_46 : decode cX9_moves 46 = .ok (.iastore, 1) := by decide +kernel
theorem dX9_moves_47 : decode cX9_moves 47 = .ok (.iinc 3 1, 3) := by decide +kernel
theorem dX9_moves_50 : decode cX9_moves 50 = .ok (.goto (-48), 3) := by decide +kernel
theorem dX9_moves_53 : decode cX9_moves 53 = .ok (.return_, 1) := by decide +kernel
theorem dX9_move_0 : decode cX9_move 0 = .ok (.aload_n 0, 1) := by decide +kernel
theorem dX9_move_1 : decode cX9_move 1 = .ok (.iconst 0, 1) := by decide +kernel
theorem dX9_move_2 : decode cX9_move 2 = .ok (.putfield 103, 3) := by decide +kernel
theorem dX9_move_5 : decode cX9_move 5 = .ok (.aload_n 0, 1) := by decide +kernel
theorem dX9_move_6 : decode cX9_move 6 = .ok (.iload_n 1, 1) := by decide +kernel
theorem dX9_move_7 : decode cX9_move 7 = .ok (.invokevirtual 252, 3) := by decide +kernel
theorem dX9_move_10 : decode cX9_move 10 = .ok (.ifCond .eq 26, 3) := by decide +kernel
theorem dX9_move_13 : decode cX9_move 13 = .ok (.iload_n 2, 1) := by decide +kernel
theorem dX9_move_14 : decode cX9_move 14 = .ok (.sipush (-999), 3) := by decide +kernel
theorem dX9_move_17 : decode cX9_move 17 = .ok (.if_icmp .lt 19, 3) := by decide +kernel
theorem dX9_move_20 : decode cX9_move 20 = .ok (.iload_n 2, 1) := by decide +kernel
theorem dX9_move_21 : decode cX9_move 21 = .ok (.sipush 999, 3) := by decide +kernel
theorem dX9_move_24 : decode cX9_move 24 = .ok (.if_icmp .gt 12, 3) := by decide +kernel
theorem dX9_move_27 : decode cX9_move 27 = .ok (.aload_n 0, 1) := by decide +kernel
theorem dX9_move_28 : decode cX9_move 28 = .ok (.iload_n 1, 1) := by decide +kernel
theorem dX9_move_29 : decode cX9_move 29 = .ok (.iload_n 2, 1) := by decide +kernel
theorem dX9_move_30 : decode cX9_move 30 = .ok (.invokevirtual 255, 3) := by decide +kernel
theorem dX9_move_33 : decode cX9_move 33 = .ok (.ifCond .ne 5, 3) := by decide +kernel
theorem dX9_move_36 : decode cX9_move 36 = .ok (.iconst 0, 1) := by decide +kernel
theorem dX9_move_37 : decode cX9_move 37 = .ok (.ireturn, 1) := by decide +kernel
theorem dX9_move_38 : decode cX9_move 38 = .ok (.aload_n 0, 1) := by decide +kernel
theorem dX9_move_39 : decode cX9_move 39 = .ok (.invokevirtual 245, 3) := by decide +kernel
theorem dX9_move_42 : decode cX9_move 42 = .ok (.aload_n 0, 1) := by decide +kernel
theorem dX9_move_43 : decode cX9_move 43 = .ok (.iload_n 1, 1) := by decide +kernel
theorem dX9_move_44 : decode cX9_move 44 = .ok (.iload_n 2, 1) := by decide +kernel
theorem dX9_move_45 : decode cX9_move 45 = .ok (.invokevirtual 259, 3) := by decide +kernel
theorem dX9_move_48 : decode cX9_move 48 = .ok (.iconst 1, 1) := by decide +kernel
theorem dX9_move_49 : decode cX9_move 49 = .ok (.ireturn, 1) := by decide +kernel
theorem dX9_phase_0 : decode cX9_phase 0 = .ok (.aload_n 0, 1) := by decide +kernel
theorem dX9_phase_1 : decode cX9_phase 1 = .ok (.iconst 0, 1) := by decide +kernel
theorem dX9_phase_2 : decode cX9_phase 2 = .ok (.putfield 103, 3) := by decide +kernel
theorem dX9_phase_5 : decode cX9_phase 5 = .ok (.aload_n 0, 1) := by decide +kernel
theorem dX9_phase_6 : decode cX9_phase 6 = .ok (.iload_n 1, 1) := by decide +kernel
theorem dX9_phase_7 : decode cX9_phase 7 = .ok (.invokevirtual 262, 3) := by decide +kernel
theorem dX9_phase_10 : decode cX9_phase 10 = .ok (.ifCond .eq 24, 3) := by decide +kernel
theorem dX9_phase_13 : decode cX9_phase 13 = .ok (.iload_n 2, 1) := by decide +kernel
theorem dX9_phase_14 : decode cX9_phase 14 = .ok (.ifCond .lt 20, 3) := by decide +kernel
theorem dX9_phase_17 : decode cX9_phase 17 = .ok (.iload_n 2, 1) := by decide +kernel
theorem dX9_phase_18 : decode cX9_phase 18 = .ok (.bipush 63, 2) := by decide +kernel
theorem dX9_phase_20 : decode cX9_phase 20 = .ok (.if_icmp .gt 14, 3) := by decide +kernel
theorem dX9_phase_23 : decode cX9_phase 23 = .ok (.iload_n 3, 1) := by decide +kernel
theorem dX9_phase_24 : decode cX9_phase 24 = .ok (.iconst 1, 1) := by decide +kernel
theorem dX9_phase_25 : decode cX9_phase 25 = .ok (.if_icmp .lt 9, 3) := by decide +kernel
theorem dX9_phase_28 : decode cX9_phase 28 = .ok (.iload_n 3, 1) := by decide +kernel
theorem dX9_phase_29 : decode cX9_phase 29 = .ok (.bipush 63, 2) := by decide +kernel
theorem dX9_phase_31 : decode cX9_phase 31 = .ok (.if_icmp .le 5, 3) := by decide +kernel
theorem dX9_phase_34 : decode cX9_phase 34 = .ok (.iconst 0, 1) := by decide +kernel
theorem dX9_phase_35 : decode cX9_phase 35 = .ok (.ireturn, 1) := by decide +kernel
theorem dX9_phase_36 : decode cX9_phase 36 = .ok (.aload_n 0, 1) := by decide +kernel
theorem dX9_phase_37 : decode cX9_phase 37 = .ok (.invokevirtual 245, 3) := by decide +kernel
theorem dX9_phase_40 : decode cX9_phase 40 = .ok (.aload_n 0, 1) := by decide +kernel
theorem dX9_phase_41 : decode cX9_phase 41 = .ok (.getfield 63, 3) := by decide +kernel
theorem dX9_phase_44 : decode cX9_phase 44 = .ok (.iconst 1, 1) := by decide +kernel
theorem dX9_phase_45 : decode cX9_phase 45 = .ok (.iload_n 1, 1) := by decide +kernel
theorem dX9_phase_46 : decode cX9_phase 46 = .ok (.iadd, 1) := by decide +kernel
theorem dX9_phase_47 : decode cX9_phase 47 = .ok (.iload_n 2, 1) := by decide +kernel
theorem dX9_phase_48 : decode cX9_phase 48 = .ok (.iastore, 1) := by decide +kernel
theorem dX9_phase_49 : decode cX9_phase 49 = .ok (.aload_n 0, 1) := by decide +kernel
theorem dX9_phase_50 : decode cX9_phase 50 = .ok (.getfield 63, 3) := by decide +kernel
theorem dX9_phase_53 : decode cX9_phase 53 = .ok (.iconst 5, 1) := by decide +kernel
theorem dX9_phase_54 : decode cX9_phase 54 = .ok (.iload_n 1, 1) := by decide +kernel
theorem dX9_phase_55 : decode cX9_phase 55 = .ok (.iadd, 1) := by decide +kernel
theorem dX9_phase_56 : decode cX9_phase 56 = .ok (.iload_n 3, 1) := by decide +kernel
theorem dX9_phase_57 : decode cX9_phase 57 = .ok (.iastore, 1) := by decide +kernel
theorem dX9_phase_58 : decode cX9_phase 58 = .ok (.iconst 1, 1) := by decide +kernel
theorem dX9_phase_59 : decode cX9_phase 59 = .ok (.ireturn, 1) := by decide +kernel
theorem dX9_delay_0 : decode cX9_delay 0 = .ok (.aload_n 0, 1) := by decide +kernel
theorem dX9_delay_1 : decode cX9_delay 1 = .ok (.iconst 0, 1) := by decide +kernel
theorem dX9_delay_2 : decode cX9_delay 2 = .ok (.putfield 103, 3) := by decide +kernel
theorem dX9_delay_5 : decode cX9_delay 5 = .ok (.aload_n 0, 1) := by decide +kernel
theorem dX9_delay_6 : decode cX9_delay 6 = .ok (.iload_n 1, 1) := by decide +kernel
theorem dX9_delay_7 : decode cX9_delay 7 = .ok (.invokevirtual 265, 3) := by decide +kernel
theorem dX9_delay_10 : decode cX9_delay 10 = .ok (.ifCond .eq 23, 3) := by decide +kernel
theorem dX9_delay_13 : decode cX9_delay 13 = .ok (.iload_n 2, 1) := by decide +kernel
theorem dX9_delay_14 : decode cX9_delay 14 = .ok (.ifCond .lt 19, 3) := by decide +kernel
theorem dX9_delay_17 : decode cX9_delay 17 = .ok (.iload_n 2, 1) := by decide +kernel
theorem dX9_delay_18 : decode cX9_delay 18 = .ok (.sipush 999, 3) := by decide +kernel
theorem dX9_delay_21 : decode cX9_delay 21 = .ok (.if_icmp .gt 12, 3) := by decide +kernel
theorem dX9_delay_24 : decode cX9_delay 24 = .ok (.iload_n 3, 1) := by decide +kernel
theorem dX9_delay_25 : decode cX9_delay 25 = .ok (.ifCond .lt 8, 3) := by decide +kernel
theorem dX9_delay_28 : decode cX9_delay 28 = .ok (.iload_n 3, 1) := by decide +kernel
theorem dX9_delay_29 : decode cX9_delay 29 = .ok (.iload_n 2, 1) := by decide +kernel
theorem dX9_delay_30 : decode cX9_delay 30 = .ok (.if_icmp .le 5, 3) := by decide +kernel
theorem dX9_delay_33 : decode cX9_delay 33 = .ok (.iconst 0, 1) := by decide +kernel
theorem dX9_delay_34 : decode cX9_delay 34 = .ok (.ireturn, 1) := by decide +kernel
theorem dX9_delay_35 : decode cX9_delay 35 = .ok (.aload_n 0, 1) := by decide +kernel
theorem dX9_delay_36 : decode cX9_delay 36 = .ok (.invokevirtual 245, 3) := by decide +kernel
theorem dX9_delay_39 : decode cX9_delay 39 = .ok (.aload_n 0, 1) := by decide +kernel
theorem dX9_delay_40 : decode cX9_delay 40 = .ok (.getfield 63, 3) := by decide +kernel
theorem dX9_delay_43 : decode cX9_delay 43 = .ok (.bipush 19, 2) := by decide +kernel
theorem dX9_delay_45 : decode cX9_delay 45 = .ok (.iload_n 1, 1) := by decide +kernel
theorem dX9_delay_46 : decode cX9_delay 46 = .ok (.iadd, 1) := by decide +kernel
theorem dX9_delay_47 : decode cX9_delay 47 = .ok (.iload_n 2, 1) := by decide +kernel
theorem dX9_delay_48 : decode cX9_delay 48 = .ok (.iastore, 1) := by decide +kernel
theorem dX9_delay_49 : decode cX9_delay 49 = .ok (.aload_n 0, 1) := by decide +kernel
theorem dX9_delay_50 : decode cX9_delay 50 = .ok (.getfield 63, 3) := by decide +kernel
theorem dX9_delay_53 : decode cX9_delay 53 = .ok (.bipush 43, 2) := by decide +kernel
theorem dX9_delay_55 : decode cX9_delay 55 = .ok (.iload_n 1, 1) := by decide +kernel
theorem dX9_delay_56 : decode cX9_delay 56 = .ok (.iadd, 1) := by decide +kernel
theorem dX9_delay_57 : decode cX9_delay 57 = .ok (.iload_n 3, 1) := by decide +kernel
theorem dX9_delay_58 : decode cX9_delay 58 = .ok (.iastore, 1) := by decide +kernel
theorem dX9_delay_59 : decode cX9_delay 59 = .ok (.iconst 1, 1) := by decide +kernel
theorem dX9_delay_60 : decode cX9_delay 60 = .ok (.ireturn, 1) := by decide +kernel
theorem dX9_flop_0 : decode cX9_flop 0 = .ok (.aload_n 0, 1) := by decide +kernel
theorem dX9_flop_1 : decode cX9_flop 1 = .ok (.iconst 0, 1) := by decide +kernel
theorem dX9_flop_2 : decode cX9_flop 2 = .ok (.putfield 103, 3) := by decide +kernel
theorem dX9_flop_5 : decode cX9_flop 5 = .ok (.aload_n 0, 1) := by decide +kernel
theorem dX9_flop_6 : decode cX9_flop 6 = .ok (.iload_n 1, 1) := by decide +kernel
theorem dX9_flop_7 : decode cX9_flop 7 = .ok (.invokevirtual 252, 3) := by decide +kernel
theorem dX9_flop_10 : decode cX9_flop 10 = .ok (.ifCond .ne 5, 3) := by decide +kernel
theorem dX9_flop_13 : decode cX9_flop 13 = .ok (.iconst (-1), 1) := by decide +kernel
theorem dX9_flop_14 : decode cX9_flop 14 = .ok (.ireturn, 1) := by decide +kernel
theorem dX9_flop_15 : decode cX9_flop 15 = .ok (.aload_n 0, 1) := by decide +kernel
theorem dX9_flop_16 : decode cX9_flop 16 = .ok (.invokevirtual 245, 3) := by decide +kernel
theorem dX9_flop_19 : decode cX9_flop 19 = .ok (.aload_n 0, 1) := by decide +kernel
theorem dX9_flop_20 : decode cX9_flop 20 = .ok (.getfield 63, 3) := by decide +kernel
theorem dX9_flop_23 : decode cX9_flop 23 = .ok (.bipush 9, 2) := by decide +kernel
theorem dX9_flop_25 : decode cX9_flop 25 = .ok (.iload_n 1, 1) := by decide +kernel
theorem dX9_flop_26 : decode cX9_flop 26 = .ok (.iadd, 1) := by decide +kernel
theorem dX9_flop_27 : decode cX9_flop 27 = .ok (.iconst 1, 1) := by decide +kernel
theorem dX9_flop_28 : decode cX9_flop 28 = .ok (.aload_n 0, 1) := by decide +kernel
theorem dX9_flop_29 : decode cX9_flop 29 = .ok (.getfield 63, 3) := by decide +kernel
theorem dX9_flop_32 : decode cX9_flop 32 = .ok (.bipush 9, 2) := by decide +kernel
theorem dX9_flop_34 : decode cX9_flop 34 = .ok (.iload_n 1, 1) := by decide +kernel
theorem dX9_flop_35 : decode cX9_flop 35 = .ok (.iadd, 1) := by decide +kernel
theorem dX9_flop_36 : decode cX9_flop 36 = .ok (.iaload, 1) := by decide +kernel
theorem dX9_flop_37 : decode cX9_flop 37 = .ok (.isub, 1) := by decide +kernel
theorem dX9_flop_38 : decode cX9_flop 38 = .ok (.iastore, 1) := by decide +kernel
theorem dX9_flop_39 : decode cX9_flop 39 = .ok (.aload_n 0, 1) := by decide +kernel
theorem dX9_flop_40 : decode cX9_flop 40 = .ok (.getfield 63, 3) := by decide +kernel
theorem dX9_flop_43 : decode cX9_flop 43 = .ok (.bipush 9, 2) := by decide +kernel
theorem dX9_flop_45 : decode cX9_flop 45 = .ok (.iload_n 1, 1) := by decide +kernel
theorem dX9_flop_46 : decode cX9_flop 46 = .ok (.iadd, 1) := by decide +kernel
theorem dX9_flop_47 : decode cX9_flop 47 = .ok (.iaload, 1) := by decide +kernel
theorem dX9_flop_48 : decode cX9_flop 48 = .ok (.ireturn, 1) := by decide +kernel
theorem dX9_cell_0 : decode cX9_cell 0 = .ok (.aload_n 0, 1) := by decide +kernel
theorem dX9_cell_1 : decode cX9_cell 1 = .ok (.iconst 0, 1) := by decide +kernel
theorem dX9_cell_2 : decode cX9_cell 2 = .ok (.putfield 103, 3) := by decide +kernel
theorem dX9_cell_5 : decode cX9_cell 5 = .ok (.aload_n 0, 1) := by decide +kernel
theorem dX9_cell_6 : decode cX9_cell 6 = .ok (.iload_n 1, 1) := by decide +kernel
theorem dX9_cell_7 : decode cX9_cell 7 = .ok (.invokevirtual 252, 3) := by decide +kernel
theorem dX9_cell_10 : decode cX9_cell 10 = .ok (.ifCond .ne 10, 3) := by decide +kernel
theorem dX9_cell_13 : decode cX9_cell 13 = .ok (.aload_n 0, 1) := by decide +kernel
theorem dX9_cell_14 : decode cX9_cell 14 = .ok (.iconst 1, 1) := by decide +kernel
theorem dX9_cell_15 : decode cX9_cell 15 = .ok (.putfield 103, 3) := by decide +kernel
theorem dX9_cell_18 : decode cX9_cell 18 = .ok (.iconst 0, 1) := by decide +kernel
theorem dX9_cell_19 : decode cX9_cell 19 = .ok (.ireturn, 1) := by decide +kernel
theorem dX9_cell_20 : decode cX9_cell 20 = .ok (.iload_n 2, 1) := by decide +kernel
theorem dX9_cell_21 : decode cX9_cell 21 = .ok (.tableswitch 101 0 6 #[43, 50, 57, 64, 71, 81, 91], 43) := by decide +kernel
theorem dX9_cell_64 : decode cX9_cell 64 = .ok (.aload_n 0, 1) := by decide +kernel
theorem dX9_cell_65 : decode cX9_cell 65 = .ok (.getfield 32, 3) := by decide +kernel
theorem dX9_cell_68 : decode cX9_cell 68 = .ok (.iload_n 1, 1) := by decide +kernel
theorem dX9_cell_69 : decode cX9_cell 69 = .ok (.iaload, 1) := by decide +kernel
theorem dX9_cell_70 : decode cX9_cell 70 = .ok (.ireturn, 1) := by decide +kernel
theorem dX9_cell_71 : decode cX9_cell 71 = .ok (.aload_n 0, 1) := by decide +kernel
theorem dX9_cell_72 : decode cX9_cell 72 = .ok (.getfield 35, 3) := by decide +kernel
theorem dX9_cell_75 : decode cX9_cell 75 = .ok (.iload_n 1, 1) := by decide +kernel
theorem dX9_cell_76 : decode cX9_cell 76 = .ok (.iaload, 1) := by decide +kernel
theorem dX9_cell_77 : decode cX9_cell 77 = .ok (.ireturn, 1) := by decide +kernel
theorem dX9_cell_78 : decode cX9_cell 78 = .ok (.aload_n 0, 1) := by decide +kernel
theorem dX9_cell_79 : decode cX9_cell 79 = .ok (.getfield 38, 3) := by decide +kernel
theorem dX9_cell_82 : decode cX9_cell 82 = .ok (.iload_n 1, 1) := by decide +kernel
theorem dX9_cell_83 : decode cX9_cell 83 = .ok (.iaload, 1) := by decide +kernel
theorem dX9_cell_84 : decode cX9_cell 84 = .ok (.ireturn, 1) := by decide +kernel
theorem dX9_cell_85 : decode cX9_cell 85 = .ok (.aload_n 0, 1) := by decide +kernel
theorem dX9_cell_86 : decode cX9_cell 86 = .ok (.getfield 41, 3) := by decide +kernel
theorem dX9_cell_89 : decode cX9_cell 89 = .ok (.iload_n 1, 1) := by decide +kernel
theorem dX9_cell_90 : decode cX9_cell 90 = .ok (.iaload, 1) := by decide +kernel
theorem dX9_cell_91 : decode cX9_cell 91 = .ok (.ireturn, 1) := by decide +kernel
theorem dX9_cell_92 : decode cX9_cell 92 = .ok (.aload_n 0, 1) := by decide +kernel
theorem dX9_cell_93 : decode cX9_cell 93 = .ok (.getfield 63, 3) := by decide +kernel
theorem dX9_cell_96 : decode cX9_cell 96 = .ok (.bipush 9, 2) := by decide +kernel
theorem dX9_cell_98 : decode cX9_cell 98 = .ok (.iload_n 1, 1) := by decide +kernel
theorem dX9_cell_99 : decode cX9_cell 99 = .ok (.iadd, 1) := by decide +kernel
theorem dX9_cell_100 : decode cX9_cell 100 = .ok (.iaload, 1) := by decide +kernel
theorem dX9_cell_101 : decode cX9_cell 101 = .ok (.ireturn, 1) := by decide +kernel
theorem dX9_cell_102 : decode cX9_cell 102 = .ok (.aload_n 0, 1) := by decide +kernel
theorem dX9_cell_103 : decode cX9_cell 103 = .ok (.aload_n 0, 1) := by decide +kernel
theorem dX9_cell_104 : decode cX9_cell 104 = .ok (.getfield 50, 3) := by decide +kernel
theorem dX9_cell_107 : decode cX9_cell 107 = .ok (.iload_n 1, 1) := by decide +kernel
theorem dX9_cell_108 : decode cX9_cell 108 = .ok (.invokevirtual 268, 3) := by decide +kernel
theorem dX9_cell_111 : decode cX9_cell 111 = .ok (.ireturn, 1) := by decide +kernel
theorem dX9_cell_112 : decode cX9_cell 112 = .ok (.aload_n 0, 1) := by decide +kernel
theorem dX9_cell_113 : decode cX9_cell 113 = .ok (.aload_n 0, 1) := by decide +kernel
theorem dX9_cell_114 : decode cX9_cell 114 = .ok (.getfield 47, 3) := by decide +kernel
theorem dX9_cell_117 : decode cX9_cell 117 = .ok (.iload_n 1, 1) := by decide +kernel
theorem dX9_cell_118 : decode cX9_cell 118 = .ok (.invokevirtual 268, 3) := by decide +kernel
theorem dX9_cell_121 : decode cX9_cell 121 = .ok (.ireturn, 1) := by decide +kernel
theorem dX9_cell_122 : decode cX9_cell 122 = .ok (.aload_n 0, 1) := by decide +kernel
theorem dX9_cell_123 : decode cX9_cell 123 = .ok (.iconst 2, 1) := by decide +kernel
theorem dX9_cell_124 : decode cX9_cell 124 = .ok (.putfield 103, 3) := by decide +kernel
theorem dX9_cell_127 : decode cX9_cell 127 = .ok (.iconst 0, 1) := by decide +kernel
theorem dX9_cell_128 : decode cX9_cell 128 = .ok (.ireturn, 1) := by decide +kernel
theorem dX9_pathsAt_0 : decode cX9_pathsAt 0 = .ok (.iconst 0, 1) := by decide +kernel
theorem dX9_pathsAt_1 : decode cX9_pathsAt 1 = .ok (.istore_n 3, 1) := by decide +kernel
theorem dX9_pathsAt_2 : decode cX9_pathsAt 2 = .ok (.iconst 0, 1) := by decide +kernel
theorem dX9_pathsAt_3 : decode cX9_pathsAt 3 = .ok (.istore 4, 2) := by decide +kernel
theorem dX9_pathsAt_5 : decode cX9_pathsAt 5 = .ok (.iload 4, 2) := by decide +kernel
theorem dX9_pathsAt_7 : decode cX9_pathsAt 7 = .ok (.aload_n 0, 1) := by decide +kernel
theorem dX9_pathsAt_8 : decode cX9_pathsAt 8 = .ok (.invokevirtual 236, 3) := by decide +kernel
theorem dX9_pathsAt_11 : decode cX9_pathsAt 11 = .ok (.if_icmp .ge 25, 3) := by decide +kernel
theorem dX9_pathsAt_14 : decode cX9_pathsAt 14 = .ok (.iload_n 3, 1) := by decide +kernel
theorem dX9_pathsAt_15 : decode cX9_pathsAt 15 = .ok (.aload_n 1, 1) := by decide +kernel
theorem dX9_pathsAt_16 : decode cX9_pathsAt 16 = .ok (.iload 4, 2) := by decide +kernel
theorem dX9_pathsAt_18 : decode cX9_pathsAt 18 = .ok (.iaload, 1) := by decide +kernel
theorem dX9_pathsAt_19 : decode cX9_pathsAt 19 = .ok (.iload_n 2, 1) := by decide +kernel
theorem dX9_pathsAt_20 : decode cX9_pathsAt 20 = .ok (.if_icmp .ne 7, 3) := by decide +kernel
theorem dX9_pathsAt_23 : decode cX9_pathsAt 23 = .ok (.iconst 1, 1) := by decide +kernel
theorem dX9_pathsAt_24 : decode cX9_pathsAt 24 = .ok (.goto 4, 3) := by decide +kernel
theorem dX9_pathsAt_27 : decode cX9_pathsAt 27 = .ok (.iconst 0, 1) := by decide +kernel
theorem dX9_pathsAt_28 : decode cX9_pathsAt 28 = .ok (.iadd, 1) := by decide +kernel
theorem dX9_pathsAt_29 : decode cX9_pathsAt 29 = .ok (.istore_n 3, 1) := by decide +kernel
theorem dX9_pathsAt_30 : decode cX9_pathsAt 30 = .ok (.iinc 4 1, 3) := by decide +kernel
theorem dX9_pathsAt_33 : decode cX9_pathsAt 33 = .ok (.goto (-28), 3) := by decide +kernel
theorem dX9_pathsAt_36 : decode cX9_pathsAt 36 = .ok (.iload_n 3, 1) := by decide +kernel
theorem dX9_pathsAt_37 : decode cX9_pathsAt 37 = .ok (.ireturn, 1) := by decide +kernel
theorem dX9_shiftOf_0 : decode cX9_shiftOf 0 = .ok (.aload_n 0, 1) := by decide +kernel
theorem dX9_shiftOf_1 : decode cX9_shiftOf 1 = .ok (.getfield 63, 3) := by decide +kernel
theorem dX9_shiftOf_4 : decode cX9_shiftOf 4 = .ok (.iconst 1, 1) := by decide +kernel
theorem dX9_shiftOf_5 : decode cX9_shiftOf 5 = .ok (.aload_n 0, 1) := by decide +kernel
theorem dX9_shiftOf_6 : decode cX9_shiftOf 6 = .ok (.getfield 32, 3) := by decide +kernel
theorem dX9_shiftOf_9 : decode cX9_shiftOf 9 = .ok (.aload_n 0, 1) := by decide +kernel
theorem dX9_shiftOf_10 : decode cX9_shiftOf 10 = .ok (.getfield 50, 3) := by decide +kernel
theorem dX9_shiftOf_13 : decode cX9_shiftOf 13 = .ok (.iload_n 1, 1) := by decide +kernel
theorem dX9_shiftOf_14 : decode cX9_shiftOf 14 = .ok (.iaload, 1) := by decide +kernel
theorem dX9_shiftOf_15 : decode cX9_shiftOf 15 = .ok (.iaload, 1) := by decide +kernel
theorem dX9_shiftOf_16 : decode cX9_shiftOf 16 = .ok (.iadd, 1) := by decide +kernel
theorem dX9_shiftOf_17 : decode cX9_shiftOf 17 = .ok (.iaload, 1) := by decide +kernel
theorem dX9_shiftOf_18 : decode cX9_shiftOf 18 = .ok (.aload_n 0, 1) := by decide +kernel
theorem dX9_shiftOf_19 : decode cX9_shiftOf 19 = .ok (.getfield 63, 3) := by decide +kernel
theorem dX9_shiftOf_22 : decode cX9_shiftOf 22 = .ok (.iconst 1, 1) := by decide +kernel
theorem dX9_shiftOf_23 : decode cX9_shiftOf 23 = .ok (.aload_n 0, 1) := by decide +kernel
theorem dX9_shiftOf_24 : decode cX9_shiftOf 24 = .ok (.getfield 32, 3) := by decide +kernel
theorem dX9_shiftOf_27 : decode cX9_shiftOf 27 = .ok (.aload_n 0, 1) := by decide +kernel
theorem dX9_shiftOf_28 : decode cX9_shiftOf 28 = .ok (.getfield 47, 3) := by decide +kernel
theorem dX9_shiftOf_31 : decode cX9_shiftOf 31 = .ok (.iload_n 1, 1) := by decide +kernel
theorem dX9_shiftOf_32 : decode cX9_shiftOf 32 = .ok (.iaload, 1) := by decide +kernel
theorem dX9_shiftOf_33 : decode cX9_shiftOf 33 = .ok (.iaload, 1) := by decide +kernel
theorem dX9_shiftOf_34 : decode cX9_shiftOf 34 = .ok (.iadd, 1) := by decide +kernel
theorem dX9_shiftOf_35 : decode cX9_shiftOf 35 = .ok (.iaload, 1) := by decide +kernel
theorem dX9_shiftOf_36 : decode cX9_shiftOf 36 = .ok (.isub, 1) := by decide +kernel
theorem dX9_shiftOf_37 : decode cX9_shiftOf 37 = .ok (.istore_n 2, 1) := by decide +kernel
theorem dX9_shiftOf_38 : decode cX9_shiftOf 38 = .ok (.iload_n 2, 1) := by decide +kernel
theorem dX9_shiftOf_39 : decode cX9_shiftOf 39 = .ok (.ifCond .le 7, 3) := by decide +kernel
theorem dX9_shiftOf_42 : decode cX9_shiftOf 42 = .ok (.iload_n 2, 1) := by decide +kernel
theorem dX9_shiftOf_43 : decode cX9_shiftOf 43 = .ok (.goto 7, 3) := by decide +kernel
theorem dX9_shiftOf_46 : decode cX9_shiftOf 46 = .ok (.iload_n 2, 1) := by decide +kernel
theorem dX9_shiftOf_47 : decode cX9_shiftOf 47 = .ok (.bipush 64, 2) := by decide +kernel
theorem dX9_shiftOf_49 : decode cX9_shiftOf 49 = .ok (.iadd, 1) := by decide +kernel
theorem dX9_shiftOf_50 : decode cX9_shiftOf 50 = .ok (.ireturn, 1) := by decide +kernel
theorem dX9_path_0 : decode cX9_path 0 = .ok (.aload_n 0, 1) := by decide +kernel
theorem dX9_path_1 : decode cX9_path 1 = .ok (.iconst 0, 1) := by decide +kernel
theorem dX9_path_2 : decode cX9_path 2 = .ok (.putfield 103, 3) := by decide +kernel
theorem dX9_path_5 : decode cX9_path 5 = .ok (.aload_n 0, 1) := by decide +kernel
theorem dX9_path_6 : decode cX9_path 6 = .ok (.iload_n 1, 1) := by decide +kernel
theorem dX9_path_7 : decode cX9_path 7 = .ok (.invokevirtual 265, 3) := by decide +kernel
theorem dX9_path_10 : decode cX9_path 10 = .ok (.ifCond .ne 5, 3) := by decide +kernel
theorem dX9_path_13 : decode cX9_path 13 = .ok (.iconst (-1), 1) := by decide +kernel
theorem dX9_path_14 : decode cX9_path 14 = .ok (.ireturn, 1) := by decide +kernel
theorem dX9_path_15 : decode cX9_path 15 = .ok (.iload_n 2, 1) := by decide +kernel
theorem dX9_path_16 : decode cX9_path 16 = .ok (.tableswitch 76 0 4 #[36, 43, 50, 60, 70], 36) := by decide +kernel
theorem dX9_path_52 : decode cX9_path 52 = .ok (.aload_n 0, 1) := by decide +kernel
theorem dX9_path_53 : decode cX9_path 53 = .ok (.getfield 47, 3) := by decide +kernel
theorem dX9_path_56 : decode cX9_path 56 = .ok (.iload_n 1, 1) := by decide +kernel
theorem dX9_path_57 : decode cX9_path 57 = .ok (.iaload, 1) := by decide +kernel
theorem dX9_path_58 : decode cX9_path 58 = .ok (.ireturn, 1) := by decide +kernel
theorem dX9_path_59 : decode cX9_path 59 = .ok (.aload_n 0, 1) := by decide +kernel
theorem dX9_path_60 : decode cX9_path 60 = .ok (.getfield 50, 3) := by decide +kernel
theorem dX9_path_63 : decode cX9_path 63 = .ok (.iload_n 1, 1) := by decide +kernel
theorem dX9_path_64 : decode cX9_path 64 = .ok (.iaload, 1) := by decide +kernel
theorem dX9_path_65 : decode cX9_path 65 = .ok (.ireturn, 1) := by decide +kernel
theorem dX9_path_66 : decode cX9_path 66 = .ok (.aload_n 0, 1) := by decide +kernel
theorem dX9_path_67 : decode cX9_path 67 = .ok (.getfield 63, 3) := by decide +kernel
theorem dX9_path_70 : decode cX9_path 70 = .ok (.bipush 19, 2) := by decide +kernel
theorem dX9_path_72 : decode cX9_path 72 = .ok (.iload_n 1, 1) := by decide +kernel
theorem dX9_path_73 : decode cX9_path 73 = .ok (.iadd, 1) := by decide +kernel
theorem dX9_path_74 : decode cX9_path 74 = .ok (.iaload, 1) := by decide +kernel
theorem dX9_path_75 : decode cX9_path 75 = .ok (.ireturn, 1) := by decide +kernel
theorem dX9_path_76 : decode cX9_path 76 = .ok (.aload_n 0, 1) := by decide +kernel
theorem dX9_path_77 : decode cX9_path 77 = .ok (.getfield 63, 3) := by decide +kernel
theorem dX9_path_80 : decode cX9_path 80 = .ok (.bipush 43, 2) := by decide +kernel
theorem dX9_path_82 : decode cX9_path 82 = .ok (.iload_n 1, 1) := by decide +kernel
theorem dX9_path_83 : decode cX9_path 83 = .ok (.iadd, 1) := by decide +kernel
theorem dX9_path_84 : decode cX9_path 84 = .ok (.iaload, 1) := by decide +kernel
theorem dX9_path_85 : decode cX9_path 85 = .ok (.ireturn, 1) := by decide +kernel
theorem dX9_path_86 : decode cX9_path 86 = .ok (.aload_n 0, 1) := by decide +kernel
theorem dX9_path_87 : decode cX9_path 87 = .ok (.iload_n 1, 1) := by decide +kernel
theorem dX9_path_88 : decode cX9_path 88 = .ok (.invokevirtual 272, 3) := by decide +kernel
theorem dX9_path_91 : decode cX9_path 91 = .ok (.ireturn, 1) := by decide +kernel
theorem dX9_path_92 : decode cX9_path 92 = .ok (.iconst (-1), 1) := by decide +kernel
theorem dX9_path_93 : decode cX9_path 93 = .ok (.ireturn, 1) := by decide +kernel
theorem dX9_opens_0 : decode cX9_opens 0 = .ok (.aload_n 0, 1) := by decide +kernel
theorem dX9_opens_1 : decode cX9_opens 1 = .ok (.iconst 0, 1) := by decide +kernel
theorem dX9_opens_2 : decode cX9_opens 2 = .ok (.putfield 103, 3) := by decide +kernel
theorem dX9_opens_5 : decode cX9_opens 5 = .ok (.aload_n 0, 1) := by decide +kernel
theorem dX9_opens_6 : decode cX9_opens 6 = .ok (.iload_n 1, 1) := by decide +kernel
theorem dX9_opens_7 : decode cX9_opens 7 = .ok (.invokevirtual 262, 3) := by decide +kernel
theorem dX9_opens_10 : decode cX9_opens 10 = .ok (.ifCond .eq 31, 3) := by decide +kernel
theorem dX9_opens_13 : decode cX9_opens 13 = .ok (.iload_n 2, 1) := by decide +kernel
theorem dX9_opens_14 : decode cX9_opens 14 = .ok (.ifCond .eq 8, 3) := by decide +kernel
theorem dX9_opens_17 : decode cX9_opens 17 = .ok (.iload_n 2, 1) := by decide +kernel
theorem dX9_opens_18 : decode cX9_opens 18 = .ok (.iconst 1, 1) := by decide +kernel
theorem dX9_opens_19 : decode cX9_opens 19 = .ok (.if_icmp .ne 22, 3) := by decide +kernel
theorem dX9_opens_22 : decode cX9_opens 22 = .ok (.aload_n 0, 1) := by decide +kernel
theorem dX9_opens_23 : decode cX9_opens 23 = .ok (.getfield 63, 3) := by decide +kernel
theorem dX9_opens_26 : decode cX9_opens 26 = .ok (.iload_n 2, 1) := by decide +kernel
theorem dX9_opens_27 : decode cX9_opens 27 = .ok (.ifCond .ne 7, 3) := by decide +kernel
theorem dX9_opens_30 : decode cX9_opens 30 = .ok (.iconst 1, 1) := by decide +kernel
theorem dX9_opens_31 : decode cX9_opens 31 = .ok (.goto 4, 3) := by decide +kernel
theorem dX9_opens_34 : decode cX9_opens 34 = .ok (.iconst 5, 1) := by decide +kernel
theorem dX9_opens_35 : decode cX9_opens 35 = .ok (.iload_n 1, 1) := by decide +kernel
theorem dX9_opens_36 : decode cX9_opens 36 = .ok (.iadd, 1) := by decide +kernel
theorem dX9_opens_37 : decode cX9_opens 37 = .ok (.iaload, 1) := by decide +kernel
theorem dX9_opens_38 : decode cX9_opens 38 = .ok (.goto 4, 3) := by decide +kernel
theorem dX9_opens_41 : decode cX9_opens 41 = .ok (.iconst (-1), 1) := by decide +kernel
theorem dX9_opens_42 : decode cX9_opens 42 = .ok (.ireturn, 1) := by decide +kernel
theorem dX9_periodLong_0 : decode cX9_periodLong 0 = .ok (.aload_n 0, 1) := by decide +kernel
theorem dX9_periodLong_1 : decode cX9_periodLong 1 = .ok (.getfield 63, 3) := by decide +kernel
theorem dX9_periodLong_4 : decode cX9_periodLong 4 = .ok (.iconst 0, 1) := by decide +kernel
theorem dX9_periodLong_5 : decode cX9_periodLong 5 = .ok (.iaload, 1) := by decide +kernel
theorem dX9_periodLong_6 : decode cX9_periodLong 6 = .ok (.i2l, 1) := by decide +kernel
theorem dX9_periodLong_7 : decode cX9_periodLong 7 = .ok (.lreturn, 1) := by decide +kernel
theorem dX9_comesBy_0 : decode cX9_comesBy 0 = .ok (.aload_n 2, 1) := by decide +kernel
theorem dX9_comesBy_1 : decode cX9_comesBy 1 = .ok (.aload_n 0, 1) := by decide +kernel
theorem dX9_comesBy_2 : decode cX9_comesBy 2 = .ok (.getfield 47, 3) := by decide +kernel
theorem dX9_comesBy_5 : decode cX9_comesBy 5 = .ok (.iload_n 1, 1) := by decide +kernel
theorem dX9_comesBy_6 : decode cX9_comesBy 6 = .ok (.iaload, 1) := by decide +kernel
theorem dX9_comesBy_7 : decode cX9_comesBy 7 = .ok (.laload, 1) := by decide +kernel
theorem dX9_comesBy_8 : decode cX9_comesBy 8 = .ok (.ldc2_w 275, 3) := by decide +kernel
theorem dX9_comesBy_11 : decode cX9_comesBy 11 = .ok (.aload_n 0, 1) := by decide +kernel
theorem dX9_comesBy_12 : decode cX9_comesBy 12 = .ok (.getfield 41, 3) := by decide +kernel
theorem dX9_comesBy_15 : decode cX9_comesBy 15 = .ok (.aload_n 0, 1) := by decide +kernel
theorem dX9_comesBy_16 : decode cX9_comesBy 16 = .ok (.getfield 47, 3) := by decide +kernel
theorem dX9_comesBy_19 : decode cX9_comesBy 19 = .ok (.iload_n 1, 1) := by decide +kernel
theorem dX9_comesBy_20 : decode cX9_comesBy 20 = .ok (.iaload, 1) := by decide +kernel
theorem dX9_comesBy_21 : decode cX9_comesBy 21 = .ok (.iaload, 1) := by decide +kernel
theorem dX9_comesBy_22 : decode cX9_comesBy 22 = .ok (.aload_n 0, 1) := by decide +kernel
theorem dX9_comesBy_23 : decode cX9_comesBy 23 = .ok (.getfield 63, 3) := by decide +kernel
theorem dX9_comesBy_26 : decode cX9_comesBy 26 = .ok (.bipush 19, 2) := by decide +kernel
theorem dX9_comesBy_28 : decode cX9_comesBy 28 = .ok (.iload_n 1, 1) := by decide +kernel
theorem dX9_comesBy_29 : decode cX9_comesBy 29 = .ok (.iadd, 1) := by decide +kernel
theorem dX9_comesBy_30 : decode cX9_comesBy 30 = .ok (.iaload, 1) := by decide +kernel
theorem dX9_comesBy_31 : decode cX9_comesBy 31 = .ok (.iadd, 1) := by decide +kernel
theorem dX9_comesBy_32 : decode cX9_comesBy 32 = .ok (.aload_n 0, 1) := by decide +kernel
theorem dX9_comesBy_33 : decode cX9_comesBy 33 = .ok (.getfield 63, 3) := by decide +kernel
theorem dX9_comesBy_36 : decode cX9_comesBy 36 = .ok (.bipush 67, 2) := by decide +kernel
theorem dX9_comesBy_38 : decode cX9_comesBy 38 = .ok (.iaload, 1) := by decide +kernel
theorem dX9_comesBy_39 : decode cX9_comesBy 39 = .ok (.iadd, 1) := by decide +kernel
theorem dX9_comesBy_40 : decode cX9_comesBy 40 = .ok (.i2l, 1) := by decide +kernel
theorem dX9_comesBy_41 : decode cX9_comesBy 41 = .ok (.lmul, 1) := by decide +kernel
theorem dX9_comesBy_42 : decode cX9_comesBy 42 = .ok (.ladd, 1) := by decide +kernel
theorem dX9_comesBy_43 : decode cX9_comesBy 43 = .ok (.aload_n 0, 1) := by decide +kernel
theorem dX9_comesBy_44 : decode cX9_comesBy 44 = .ok (.iload_n 1, 1) := by decide +kernel
theorem dX9_comesBy_45 : decode cX9_comesBy 45 = .ok (.invokevirtual 272, 3) := by decide +kernel
theorem dX9_comesBy_48 : decode cX9_comesBy 48 = .ok (.i2l, 1) := by decide +kernel
theorem dX9_comesBy_49 : decode cX9_comesBy 49 = .ok (.aload_n 0, 1) := by decide +kernel
theorem dX9_comesBy_50 : decode cX9_comesBy 50 = .ok (.invokevirtual 277, 3) := by decide +kernel
theorem dX9_comesBy_53 : decode cX9_comesBy 53 = .ok (.lmul, 1) := by decide +kernel
theorem dX9_comesBy_54 : decode cX9_comesBy 54 = .ok (.lsub, 1) := by decide +kernel
theorem dX9_comesBy_55 : decode cX9_comesBy 55 = .ok (.lreturn, 1) := by decide +kernel
theorem dX9_comesTo_0 : decode cX9_comesTo 0 = .ok (.aload_n 0, 1) := by decide +kernel
theorem dX9_comesTo_1 : decode cX9_comesTo 1 = .ok (.iload_n 1, 1) := by decide +kernel
theorem dX9_comesTo_2 : decode cX9_comesTo 2 = .ok (.invokevirtual 281, 3) := by decide +kernel
theorem dX9_comesTo_5 : decode cX9_comesTo 5 = .ok (.ifCond .eq 17, 3) := by decide +kernel
theorem dX9_comesTo_8 : decode cX9_comesTo 8 = .ok (.ldc2_w 284, 3) := by decide +kernel
theorem dX9_comesTo_11 : decode cX9_comesTo 11 = .ok (.aload_n 0, 1) := by decide +kernel
theorem dX9_comesTo_12 : decode cX9_comesTo 12 = .ok (.getfield 35, 3) := by decide +kernel
theorem dX9_comesTo_15 : decode cX9_comesTo 15 = .ok (.iload_n 1, 1) := by decide +kernel
theorem dX9_comesTo_16 : decode cX9_comesTo 16 = .ok (.iaload, 1) := by decide +kernel
theorem dX9_comesTo_17 : decode cX9_comesTo 17 = .ok (.i2l, 1) := by decide +kernel
theorem dX9_comesTo_18 : decode cX9_comesTo 18 = .ok (.lmul, 1) := by decide +kernel
theorem dX9_comesTo_19 : decode cX9_comesTo 19 = .ok (.goto 4, 3) := by decide +kernel
theorem dX9_comesTo_22 : decode cX9_comesTo 22 = .ok (.lconst 0, 1) := by decide +kernel
theorem dX9_comesTo_23 : decode cX9_comesTo 23 = .ok (.lstore_n 3, 1) := by decide +kernel
theorem dX9_comesTo_24 : decode cX9_comesTo 24 = .ok (.iconst 0, 1) := by decide +kernel
theorem dX9_comesTo_25 : decode cX9_comesTo 25 = .ok (.istore 5, 2) := by decide +kernel
theorem dX9_comesTo_27 : decode cX9_comesTo 27 = .ok (.iconst 0, 1) := by decide +kernel
theorem dX9_comesTo_28 : decode cX9_comesTo 28 = .ok (.istore 6, 2) := by decide +kernel
theorem dX9_comesTo_30 : decode cX9_comesTo 30 = .ok (.iload 6, 2) := by decide +kernel
theorem dX9_comesTo_32 : decode cX9_comesTo 32 = .ok (.aload_n 0, 1) := by decide +kernel
theorem dX9_comesTo_33 : decode cX9_comesTo 33 = .ok (.invokevirtual 236, 3) := by decide +kernel
theorem dX9_comesTo_36 : decode cX9_comesTo 36 = .ok (.if_icmp .ge 54, 3) := by decide +kernel
theorem dX9_comesTo_39 : decode cX9_comesTo 39 = .ok (.aload_n 0, 1) := by decide +kernel
theorem dX9_comesTo_40 : decode cX9_comesTo 40 = .ok (.getfield 50, 3) := by decide +kernel
theorem dX9_comesTo_43 : decode cX9_comesTo 43 = .ok (.iload 6, 2) := by decide +kernel
theorem dX9_comesTo_45 : decode cX9_comesTo 45 = .ok (.iaload, 1) := by decide +kernel
theorem dX9_comesTo_46 : decode cX9_comesTo 46 = .ok (.iload_n 1, 1) := by decide +kernel
theorem dX9_comesTo_47 : decode cX9_comesTo 47 = .ok (.if_icmp .eq 6, 3) := by decide +kernel
theorem dX9_comesTo_50 : decode cX9_comesTo 50 = .ok (.goto 34, 3) := by decide +kernel
theorem dX9_comesTo_53 : decode cX9_comesTo 53 = .ok (.aload_n 0, 1) := by decide +kernel
theorem dX9_comesTo_54 : decode cX9_comesTo 54 = .ok (.iload 6, 2) := by decide +kernel
theorem dX9_comesTo_56 : decode cX9_comesTo 56 = .ok (.aload_n 2, 1) := by decide +kernel
theorem dX9_comesTo_57 : decode cX9_comesTo 57 = .ok (.invokevirtual 286, 3) := by decide +kernel
theorem dX9_comesTo_60 : decode cX9_comesTo 60 = .ok (.lstore 7, 2) := by decide +kernel
theorem dX9_comesTo_62 : decode cX9_comesTo 62 = .ok (.iload 5, 2) := by decide +kernel
theorem dX9_comesTo_64 : decode cX9_comesTo 64 = .ok (.ifCond .eq 10, 3) := by decide +kernel
theorem dX9_comesTo_67 : decode cX9_comesTo 67 = .ok (.lload 7, 2) := by decide +kernel
theorem dX9_comesTo_69 : decode cX9_comesTo 69 = .ok (.lload_n 3, 1) := by decide +kernel
theorem dX9_comesTo_70 : decode cX9_comesTo 70 = .ok (.lcmp, 1) := by decide +kernel
theorem dX9_comesTo_71 : decode cX9_comesTo 71 = .ok (.ifCond .le 8, 3) := by decide +kernel
theorem dX9_comesTo_74 : decode cX9_comesTo 74 = .ok (.lload 7, 2) := by decide +kernel
theorem dX9_comesTo_76 : decode cX9_comesTo 76 = .ok (.goto 4, 3) := by decide +kernel
theorem dX9_comesTo_79 : decode cX9_comesTo 79 = .ok (.lload_n 3, 1) := by decide +kernel
theorem dX9_comesTo_80 : decode cX9_comesTo 80 = .ok (.lstore_n 3, 1) := by decide +kernel
theorem dX9_comesTo_81 : decode cX9_comesTo 81 = .ok (.iconst 1, 1) := by decide +kernel
theorem dX9_comesTo_82 : decode cX9_comesTo 82 = .ok (.istore 5, 2) := by decide +kernel
theorem dX9_comesTo_84 : decode cX9_comesTo 84 = .ok (.iinc 6 1, 3) := by decide +kernel
theorem dX9_comesTo_87 : decode cX9_comesTo 87 = .ok (.goto (-57), 3) := by decide +kernel
theorem dX9_comesTo_90 : decode cX9_comesTo 90 = .ok (.lload_n 3, 1) := by decide +kernel
theorem dX9_comesTo_91 : decode cX9_comesTo 91 = .ok (.lreturn, 1) := by decide +kernel
theorem dX9_round_0 : decode cX9_round 0 = .ok (.iconst 0, 1) := by decide +kernel
theorem dX9_round_1 : decode cX9_round 1 = .ok (.istore_n 1, 1) := by decide +kernel
theorem dX9_round_2 : decode cX9_round 2 = .ok (.iload_n 1, 1) := by decide +kernel
theorem dX9_round_3 : decode cX9_round 3 = .ok (.aload_n 0, 1) := by decide +kernel
theorem dX9_round_4 : decode cX9_round 4 = .ok (.invokevirtual 233, 3) := by decide +kernel
theorem dX9_round_7 : decode cX9_round 7 = .ok (.if_icmp .ge 21, 3) := by decide +kernel
theorem dX9_round_10 : decode cX9_round 10 = .ok (.aload_n 0, 1) := by decide +kernel
theorem dX9_round_11 : decode cX9_round 11 = .ok (.getfield 76, 3) := by decide +kernel
theorem dX9_round_14 : decode cX9_round 14 = .ok (.iload_n 1, 1) := by decide +kernel
theorem dX9_round_15 : decode cX9_round 15 = .ok (.aload_n 0, 1) := by decide +kernel
theorem dX9_round_16 : decode cX9_round 16 = .ok (.getfield 69, 3) := by decide +kernel
theorem dX9_round_19 : decode cX9_round 19 = .ok (.iload_n 1, 1) := by decide +kernel
theorem dX9_round_20 : decode cX9_round 20 = .ok (.laload, 1) := by decide +kernel
theorem dX9_round_21 : decode cX9_round 21 = .ok (.lastore, 1) := by decide +kernel
theorem dX9_round_22 : decode cX9_round 22 = .ok (.iinc 1 1, 3) := by decide +kernel
theorem dX9_round_25 : decode cX9_round 25 = .ok (.goto (-23), 3) := by decide +kernel
theorem dX9_round_28 : decode cX9_round 28 = .ok (.iconst 0, 1) := by decide +kernel
theorem dX9_round_29 : decode cX9_round 29 = .ok (.istore_n 1, 1) := by decide +kernel
theorem dX9_round_30 : decode cX9_round 30 = .ok (.iload_n 1, 1) := by decide +kernel
theorem dX9_round_31 : decode cX9_round 31 = .ok (.aload_n 0, 1) := by decide +kernel
theorem dX9_round_32 : decode cX9_round 32 = .ok (.invokevirtual 233, 3) := by decide +kernel
theorem dX9_round_35 : decode cX9_round 35 = .ok (.if_icmp .ge 59, 3) := by decide +kernel
theorem dX9_round_38 : decode cX9_round 38 = .ok (.aload_n 0, 1) := by decide +kernel
theorem dX9_round_39 : decode cX9_round 39 = .ok (.getfield 73, 3) := by decide +kernel
theorem dX9_round_42 : decode cX9_round 42 = .ok (.iload_n 1, 1) := by decide +kernel
theorem dX9_round_43 : decode cX9_round 43 = .ok (.aload_n 0, 1) := by decide +kernel
theorem dX9_round_44 : decode cX9_round 44 = .ok (.iload_n 1, 1) := by decide +kernel
theorem dX9_round_45 : decode cX9_round 45 = .ok (.aload_n 0, 1) := by decide +kernel
theorem dX9_round_46 : decode cX9_round 46 = .ok (.getfield 76, 3) := by decide +kernel
theorem dX9_round_49 : decode cX9_round 49 = .ok (.invokevirtual 290, 3) := by decide +kernel
theorem dX9_round_52 : decode cX9_round 52 = .ok (.lastore, 1) := by decide +kernel
theorem dX9_round_53 : decode cX9_round 53 = .ok (.aload_n 0, 1) := by decide +kernel
theorem dX9_round_54 : decode cX9_round 54 = .ok (.getfield 69, 3) := by decide +kernel
theorem dX9_round_57 : decode cX9_round 57 = .ok (.iload_n 1, 1) := by decide +kernel
theorem dX9_round_58 : decode cX9_round 58 = .ok (.aload_n 0, 1) := by decide +kernel
theorem dX9_round_59 : decode cX9_round 59 = .ok (.iload_n 1, 1) := by decide +kernel
theorem dX9_round_60 : decode cX9_round 60 = .ok (.invokevirtual 281, 3) := by decide +kernel
theorem dX9_round_63 : decode cX9_round 63 = .ok (.ifCond .ne 14, 3) := by decide +kernel
theorem dX9_round_66 : decode cX9_round 66 = .ok (.aload_n 0, 1) := by decide +kernel
theorem dX9_round_67 : decode cX9_round 67 = .ok (.getfield 73, 3) := by decide +kernel
theorem dX9_round_70 : decode cX9_round 70 = .ok (.iload_n 1, 1) := by decide +kernel
theorem dX9_round_71 : decode cX9_round 71 = .ok (.laload, 1) := by decide +kernel
theorem dX9_round_72 : decode cX9_round 72 = .ok (.lconst 0, 1) := by decide +kernel
theorem dX9_round_73 : decode cX9_round 73 = .ok (.lcmp, 1) := by decide +kernel
theorem dX9_round_74 : decode cX9_round 74 = .ok (.ifCond .ge 7, 3) := by decide +kernel
theorem dX9_round_77 : decode cX9_round 77 = .ok (.lconst 0, 1) := by decide +kernel
theorem dX9_round_78 : decode cX9_round 78 = .ok (.goto 9, 3) := by decide +kernel
theorem dX9_round_81 : decode cX9_round 81 = .ok (.aload_n 0, 1) := by decide +kernel
theorem dX9_round_82 : decode cX9_round 82 = .ok (.getfield 73, 3) := by decide +kernel
theorem dX9_round_85 : decode cX9_round 85 = .ok (.iload_n 1, 1) := by decide +kernel
theorem dX9_round_86 : decode cX9_round 86 = .ok (.laload, 1) := by decide +kernel
theorem dX9_round_87 : decode cX9_round 87 = .ok (.lastore, 1) := by decide +kernel
theorem dX9_round_88 : decode cX9_round 88 = .ok (.iinc 1 1, 3) := by decide +kernel
theorem dX9_round_91 : decode cX9_round 91 = .ok (.goto (-61), 3) := by decide +kernel
theorem dX9_round_94 : decode cX9_round 94 = .ok (.return_, 1) := by decide +kernel
theorem dX9_rest_0 : decode cX9_rest 0 = .ok (.iconst 0, 1) := by decide +kernel
theorem dX9_rest_1 : decode cX9_rest 1 = .ok (.istore_n 1, 1) := by decide +kernel
theorem dX9_rest_2 : decode cX9_rest 2 = .ok (.iload_n 1, 1) := by decide +kernel
theorem dX9_rest_3 : decode cX9_rest 3 = .ok (.aload_n 0, 1) := by decide +kernel
theorem dX9_rest_4 : decode cX9_rest 4 = .ok (.invokevirtual 233, 3) := by decide +kernel
theorem dX9_rest_7 : decode cX9_rest 7 = .ok (.if_icmp .ge 23, 3) := by decide +kernel
theorem dX9_rest_10 : decode cX9_rest 10 = .ok (.aload_n 0, 1) := by decide +kernel
theorem dX9_rest_11 : decode cX9_rest 11 = .ok (.getfield 69, 3) := by decide +kernel
theorem dX9_rest_14 : decode cX9_rest 14 = .ok (.iload_n 1, 1) := by decide +kernel
theorem dX9_rest_15 : decode cX9_rest 15 = .ok (.lconst 0, 1) := by decide +kernel
theorem dX9_rest_16 : decode cX9_rest 16 = .ok (.lastore, 1) := by decide +kernel
theorem dX9_rest_17 : decode cX9_rest 17 = .ok (.aload_n 0, 1) := by decide +kernel
theorem dX9_rest_18 : decode cX9_rest 18 = .ok (.getfield 73, 3) := by decide +kernel
theorem dX9_rest_21 : decode cX9_rest 21 = .ok (.iload_n 1, 1) := by decide +kernel
theorem dX9_rest_22 : decode cX9_rest 22 = .ok (.lconst 0, 1) := by decide +kernel
theorem dX9_rest_23 : decode cX9_rest 23 = .ok (.lastore, 1) := by decide +kernel
theorem dX9_rest_24 : decode cX9_rest 24 = .ok (.iinc 1 1, 3) := by decide +kernel
theorem dX9_rest_27 : decode cX9_rest 27 = .ok (.goto (-25), 3) := by decide +kernel
theorem dX9_rest_30 : decode cX9_rest 30 = .ok (.return_, 1) := by decide +kernel
theorem dX9_isStill_0 : decode cX9_isStill 0 = .ok (.iconst 0, 1) := by decide +kernel
theorem dX9_isStill_1 : decode cX9_isStill 1 = .ok (.istore_n 1, 1) := by decide +kernel
theorem dX9_isStill_2 : decode cX9_isStill 2 = .ok (.iload_n 1, 1) := by decide +kernel
theorem dX9_isStill_3 : decode cX9_isStill 3 = .ok (.aload_n 0, 1) := by decide +kernel
theorem dX9_isStill_4 : decode cX9_isStill 4 = .ok (.invokevirtual 233, 3) := by decide +kernel
theorem dX9_isStill_7 : decode cX9_isStill 7 = .ok (.if_icmp .ge 27, 3) := by decide +kernel
theorem dX9_isStill_10 : decode cX9_isStill 10 = .ok (.aload_n 0, 1) := by decide +kernel
theorem dX9_isStill_11 : decode cX9_isStill 11 = .ok (.getfield 76, 3) := by decide +kernel
theorem dX9_isStill_14 : decode cX9_isStill 14 = .ok (.iload_n 1, 1) := by decide +kernel
theorem dX9_isStill_15 : decode cX9_isStill 15 = .ok (.laload, 1) := by decide +kernel
theorem dX9_isStill_16 : decode cX9_isStill 16 = .ok (.aload_n 0, 1) := by decide +kernel
theorem dX9_isStill_17 : decode cX9_isStill 17 = .ok (.getfield 69, 3) := by decide +kernel
theorem dX9_isStill_20 : decode cX9_isStill 20 = .ok (.iload_n 1, 1) := by decide +kernel
theorem dX9_isStill_21 : decode cX9_isStill 21 = .ok (.laload, 1) := by decide +kernel
theorem dX9_isStill_22 : decode cX9_isStill 22 = .ok (.lcmp, 1) := by decide +kernel
theorem dX9_isStill_23 : decode cX9_isStill 23 = .ok (.ifCond .eq 5, 3) := by decide +kernel
theorem dX9_isStill_26 : decode cX9_isStill 26 = .ok (.iconst 0, 1) := by decide +kernel
theorem dX9_isStill_27 : decode cX9_isStill 27 = .ok (.ireturn, 1) := by decide +kernel
theorem dX9_isStill_28 : decode cX9_isStill 28 = .ok (.iinc 1 1, 3) := by decide +kernel
theorem dX9_isStill_31 : decode cX9_isStill 31 = .ok (.goto (-29), 3) := by decide +kernel
theorem dX9_isStill_34 : decode cX9_isStill 34 = .ok (.iconst 1, 1) := by decide +kernel
theorem dX9_isStill_35 : decode cX9_isStill 35 = .ok (.ireturn, 1) := by decide +kernel
theorem dX9_settles_0 : decode cX9_settles 0 = .ok (.aload_n 0, 1) := by decide +kernel
theorem dX9_settles_1 : decode cX9_settles 1 = .ok (.invokevirtual 293, 3) := by decide +kernel
theorem dX9_settles_4 : decode cX9_settles 4 = .ok (.aload_n 0, 1) := by decide +kernel
theorem dX9_settles_5 : decode cX9_settles 5 = .ok (.invokevirtual 296, 3) := by decide +kernel
theorem dX9_settles_8 : decode cX9_settles 8 = .ok (.iconst 0, 1) := by decide +kernel
theorem dX9_settles_9 : decode cX9_settles 9 = .ok (.istore_n 1, 1) := by decide +kernel
theorem dX9_settles_10 : decode cX9_settles 10 = .ok (.iload_n 1, 1) := by decide +kernel
theorem dX9_settles_11 : decode cX9_settles 11 = .ok (.aload_n 0, 1) := by decide +kernel
theorem dX9_settles_12 : decode cX9_settles 12 = .ok (.invokevirtual 233, 3) := by decide +kernel
theorem dX9_settles_15 : decode cX9_settles 15 = .ok (.if_icmp .gt 20, 3) := by decide +kernel
theorem dX9_settles_18 : decode cX9_settles 18 = .ok (.aload_n 0, 1) := by decide +kernel
theorem dX9_settles_19 : decode cX9_settles 19 = .ok (.invokevirtual 299, 3) := by decide +kernel
theorem dX9_settles_22 : decode cX9_settles 22 = .ok (.ifCond .ne 13, 3) := by decide +kernel
theorem dX9_settles_25 : decode cX9_settles 25 = .ok (.aload_n 0, 1) := by decide +kernel
theorem dX9_settles_26 : decode cX9_settles 26 = .ok (.invokevirtual 296, 3) := by decide +kernel
theorem dX9_settles_29 : decode cX9_settles 29 = .ok (.iinc 1 1, 3) := by decide +kernel
theorem dX9_settles_32 : decode cX9_settles 32 = .ok (.goto (-22), 3) := by decide +kernel
theorem dX9_settles_35 : decode cX9_settles 35 = .ok (.aload_n 0, 1) := by decide +kernel
theorem dX9_settles_36 : decode cX9_settles 36 = .ok (.aload_n 0, 1) := by decide +kernel
theorem dX9_settles_37 : decode cX9_settles 37 = .ok (.invokevirtual 299, 3) := by decide +kernel
theorem dX9_settles_40 : decode cX9_settles 40 = .ok (.ifCond .ne 7, 3) := by decide +kernel
theorem dX9_settles_43 : decode cX9_settles 43 = .ok (.iconst 1, 1) := by decide +kernel
theorem dX9_settles_44 : decode cX9_settles 44 = .ok (.goto 4, 3) := by decide +kernel
theorem dX9_settles_47 : decode cX9_settles 47 = .ok (.iconst 0, 1) := by decide +kernel
theorem dX9_settles_48 : decode cX9_settles 48 = .ok (.putfield 303, 3) := by decide +kernel
theorem dX9_settles_51 : decode cX9_settles 51 = .ok (.return_, 1) := by decide +kernel
theorem dX9_roomOf_0 : decode cX9_roomOf 0 = .ok (.ldc2_w 275, 3) := by decide +kernel
theorem dX9_roomOf_3 : decode cX9_roomOf 3 = .ok (.aload_n 0, 1) := by decide +kernel
theorem dX9_roomOf_4 : decode cX9_roomOf 4 = .ok (.getfield 35, 3) := by decide +kernel
theorem dX9_roomOf_7 : decode cX9_roomOf 7 = .ok (.iload_n 1, 1) := by decide +kernel
theorem dX9_roomOf_8 : decode cX9_roomOf 8 = .ok (.iaload, 1) := by decide +kernel
theorem dX9_roomOf_9 : decode cX9_roomOf 9 = .ok (.i2l, 1) := by decide +kernel
theorem dX9_roomOf_10 : decode cX9_roomOf 10 = .ok (.lmul, 1) := by decide +kernel
theorem dX9_roomOf_11 : decode cX9_roomOf 11 = .ok (.lstore 6, 2) := by decide +kernel
theorem dX9_roomOf_13 : decode cX9_roomOf 13 = .ok (.aload_n 0, 1) := by decide +kernel
theorem dX9_roomOf_14 : decode cX9_roomOf 14 = .ok (.iload_n 1, 1) := by decide +kernel
theorem dX9_roomOf_15 : decode cX9_roomOf 15 = .ok (.invokevirtual 281, 3) := by decide +kernel
theorem dX9_roomOf_18 : decode cX9_roomOf 18 = .ok (.ifCond .eq 12, 3) := by decide +kernel
theorem dX9_roomOf_21 : decode cX9_roomOf 21 = .ok (.lload 6, 2) := by decide +kernel
theorem dX9_roomOf_23 : decode cX9_roomOf 23 = .ok (.lneg, 1) := by decide +kernel
theorem dX9_roomOf_24 : decode cX9_roomOf 24 = .ok (.lload 4, 2) := by decide +kernel
theorem dX9_roomOf_26 : decode cX9_roomOf 26 = .ok (.lsub, 1) := by decide +kernel
theorem dX9_roomOf_27 : decode cX9_roomOf 27 = .ok (.goto 27, 3) := by decide +kernel
theorem dX9_roomOf_30 : decode cX9_roomOf 30 = .ok (.aload_n 0, 1) := by decide +kernel
theorem dX9_roomOf_31 : decode cX9_roomOf 31 = .ok (.getfield 63, 3) := by decide +kernel
theorem dX9_roomOf_34 : decode cX9_roomOf 34 = .ok (.iconst 5, 1) := by decide +kernel
theorem dX9_roomOf_35 : decode cX9_roomOf 35 = .ok (.aload_n 0, 1) := by decide +kernel
theorem dX9_roomOf_36 : decode cX9_roomOf 36 = .ok (.getfield 32, 3) := by decide +kernel
theorem dX9_roomOf_39 : decode cX9_roomOf 39 = .ok (.iload_n 1, 1) := by decide +kernel
theorem dX9_roomOf_40 : decode cX9_roomOf 40 = .ok (.iaload, 1) := by decide +kernel
theorem dX9_roomOf_41 : decode cX9_roomOf 41 = .ok (.iadd, 1) := by decide +kernel
theorem dX9_roomOf_42 : decode cX9_roomOf 42 = .ok (.iaload, 1) := by decide +kernel
theorem dX9_roomOf_43 : decode cX9_roomOf 43 = .ok (.i2l, 1) := by decide +kernel
theorem dX9_roomOf_44 : decode cX9_roomOf 44 = .ok (.aload_n 0, 1) := by decide +kernel
theorem dX9_roomOf_45 : decode cX9_roomOf 45 = .ok (.invokevirtual 277, 3) := by decide +kernel
theorem dX9_roomOf_48 : decode cX9_roomOf 48 = .ok (.lmul, 1) := by decide +kernel
theorem dX9_roomOf_49 : decode cX9_roomOf 49 = .ok (.lload 6, 2) := by decide +kernel
theorem dX9_roomOf_51 : decode cX9_roomOf 51 = .ok (.lsub, 1) := by decide +kernel
theorem dX9_roomOf_52 : decode cX9_roomOf 52 = .ok (.lload_n 2, 1) := by decide +kernel
theorem dX9_roomOf_53 : decode cX9_roomOf 53 = .ok (.lsub, 1) := by decide +kernel
theorem dX9_roomOf_54 : decode cX9_roomOf 54 = .ok (.lreturn, 1) := by decide +kernel
theorem dX9_isGood_0 : decode cX9_isGood 0 = .ok (.aload_n 0, 1) := by decide +kernel
theorem dX9_isGood_1 : decode cX9_isGood 1 = .ok (.invokevirtual 306, 3) := by decide +kernel
theorem dX9_isGood_4 : decode cX9_isGood 4 = .ok (.aload_n 0, 1) := by decide +kernel
theorem dX9_isGood_5 : decode cX9_isGood 5 = .ok (.getfield 303, 3) := by decide +kernel
theorem dX9_isGood_8 : decode cX9_isGood 8 = .ok (.ifCond .eq 5, 3) := by decide +kernel
theorem dX9_isGood_11 : decode cX9_isGood 11 = .ok (.iconst 0, 1) := by decide +kernel
theorem dX9_isGood_12 : decode cX9_isGood 12 = .ok (.ireturn, 1) := by decide +kernel
theorem dX9_isGood_13 : decode cX9_isGood 13 = .ok (.iconst 0, 1) := by decide +kernel
theorem dX9_isGood_14 : decode cX9_isGood 14 = .ok (.istore_n 1, 1) := by decide +kernel
theorem dX9_isGood_15 : decode cX9_isGood 15 = .ok (.iload_n 1, 1) := by decide +kernel
theorem dX9_isGood_16 : decode cX9_isGood 16 = .ok (.aload_n 0, 1) := by decide +kernel
theorem dX9_isGood_17 : decode cX9_isGood 17 = .ok (.invokevirtual 233, 3) := by decide +kernel
theorem dX9_isGood_20 : decode cX9_isGood 20 = .ok (.if_icmp .ge 33, 3) := by decide +kernel
theorem dX9_isGood_23 : decode cX9_isGood 23 = .ok (.aload_n 0, 1) := by decide +kernel
theorem dX9_isGood_24 : decode cX9_isGood 24 = .ok (.iload_n 1, 1) := by decide +kernel
theorem dX9_isGood_25 : decode cX9_isGood 25 = .ok (.aload_n 0, 1) := by decide +kernel
theorem dX9_isGood_26 : decode cX9_isGood 26 = .ok (.getfield 69, 3) := by decide +kernel
theorem dX9_isGood_29 : decode cX9_isGood 29 = .ok (.iload_n 1, 1) := by decide +kernel
theorem dX9_isGood_30 : decode cX9_isGood 30 = .ok (.laload, 1) := by decide +kernel
theorem dX9_isGood_31 : decode cX9_isGood 31 = .ok (.aload_n 0, 1) := by decide +kernel
theorem dX9_isGood_32 : decode cX9_isGood 32 = .ok (.getfield 73, 3) := by decide +kernel
theorem dX9_isGood_35 : decode cX9_isGood 35 = .ok (.iload_n 1, 1) := by decide +kernel
theorem dX9_isGood_36 : decode cX9_isGood 36 = .ok (.laload, 1) := by decide +kernel
theorem dX9_isGood_37 : decode cX9_isGood 37 = .ok (.invokevirtual 309, 3) := by decide +kernel
theorem dX9_isGood_40 : decode cX9_isGood 40 = .ok (.lconst 0, 1) := by decide +kernel
theorem dX9_isGood_41 : decode cX9_isGood 41 = .ok (.lcmp, 1) := by decide +kernel
theorem dX9_isGood_42 : decode cX9_isGood 42 = .ok (.ifCond .ge 5, 3) := by decide +kernel
theorem dX9_isGood_45 : decode cX9_isGood 45 = .ok (.iconst 0, 1) := by decide +kernel
theorem dX9_isGood_46 : decode cX9_isGood 46 = .ok (.ireturn, 1) := by decide +kernel
theorem dX9_isGood_47 : decode cX9_isGood 47 = .ok (.iinc 1 1, 3) := by decide +kernel
theorem dX9_isGood_50 : decode cX9_isGood 50 = .ok (.goto (-35), 3) := by decide +kernel
theorem dX9_isGood_53 : decode cX9_isGood 53 = .ok (.iconst 1, 1) := by decide +kernel
theorem dX9_isGood_54 : decode cX9_isGood 54 = .ok (.ireturn, 1) := by decide +kernel
theorem dX9_leaves_0 : decode cX9_leaves 0 = .ok (.aload_n 0, 1) := by decide +kernel
theorem dX9_leaves_1 : decode cX9_leaves 1 = .ok (.iconst 0, 1) := by decide +kernel
theorem dX9_leaves_2 : decode cX9_leaves 2 = .ok (.putfield 103, 3) := by decide +kernel
theorem dX9_leaves_5 : decode cX9_leaves 5 = .ok (.aload_n 0, 1) := by decide +kernel
theorem dX9_leaves_6 : decode cX9_leaves 6 = .ok (.iload_n 1, 1) := by decide +kernel
theorem dX9_leaves_7 : decode cX9_leaves 7 = .ok (.invokevirtual 252, 3) := by decide +kernel
theorem dX9_leaves_10 : decode cX9_leaves 10 = .ok (.ifCond .ne 7, 3) := by decide +kernel
theorem dX9_leaves_13 : decode cX9_leaves 13 = .ok (.ldc2_w 313, 3) := by decide +kernel
theorem dX9_leaves_16 : decode cX9_leaves 16 = .ok (.lreturn, 1) := by decide +kernel
theorem dX9_leaves_17 : decode cX9_leaves 17 = .ok (.aload_n 0, 1) := by decide +kernel
theorem dX9_leaves_18 : decode cX9_leaves 18 = .ok (.invokevirtual 306, 3) := by decide +kernel
theorem dX9_leaves_21 : decode cX9_leaves 21 = .ok (.aload_n 0, 1) := by decide +kernel
theorem dX9_leaves_22 : decode cX9_leaves 22 = .ok (.getfield 303, 3) := by decide +kernel
theorem dX9_leaves_25 : decode cX9_leaves 25 = .ok (.ifCond .eq 9, 3) := by decide +kernel
theorem dX9_leaves_28 : decode cX9_leaves 28 = .ok (.ldc2_w 315, 3) := by decide +kernel
theorem dX9_leaves_31 : decode cX9_leaves 31 = .ok (.goto 9, 3) := by decide +kernel
theorem dX9_leaves_34 : decode cX9_leaves 34 = .ok (.aload_n 0, 1) := by decide +kernel
theorem dX9_leaves_35 : decode cX9_leaves 35 = .ok (.getfield 69, 3) := by decide +kernel
theorem dX9_leaves_38 : decode cX9_leaves 38 = .ok (.iload_n 1, 1) := by decide +kernel
theorem dX9_leaves_39 : decode cX9_leaves 39 = .ok (.laload, 1) := by decide +kernel
theorem dX9_leaves_40 : decode cX9_leaves 40 = .ok (.lreturn, 1) := by decide +kernel
theorem dX9_comes_0 : decode cX9_comes 0 = .ok (.aload_n 0, 1) := by decide +kernel
theorem dX9_comes_1 : decode cX9_comes 1 = .ok (.iconst 0, 1) := by decide +kernel
theorem dX9_comes_2 : decode cX9_comes 2 = .ok (.putfield 103, 3) := by decide +kernel
theorem dX9_comes_5 : decode cX9_comes 5 = .ok (.aload_n 0, 1) := by decide +kernel
theorem dX9_comes_6 : decode cX9_comes 6 = .ok (.iload_n 1, 1) := by decide +kernel
theorem dX9_comes_7 : decode cX9_comes 7 = .ok (.invokevirtual 252, 3) := by decide +kernel
theorem dX9_comes_10 : decode cX9_comes 10 = .ok (.ifCond .ne 7, 3) := by decide +kernel
theorem dX9_comes_13 : decode cX9_comes 13 = .ok (.ldc2_w 317, 3) := by decide +kernel
theorem dX9_comes_16 : decode cX9_comes 16 = .ok (.lreturn, 1) := by decide +kernel
theorem dX9_comes_17 : decode cX9_comes 17 = .ok (.aload_n 0, 1) := by decide +kernel
theorem dX9_comes_18 : decode cX9_comes 18 = .ok (.invokevirtual 306, 3) := by decide +kernel
theorem dX9_comes_21 : decode cX9_comes 21 = .ok (.aload_n 0, 1) := by decide +kernel
theorem dX9_comes_22 : decode cX9_comes 22 = .ok (.getfield 303, 3) := by decide +kernel
theorem dX9_comes_25 : decode cX9_comes 25 = .ok (.ifCond .eq 9, 3) := by decide +kernel
theorem dX9_comes_28 : decode cX9_comes 28 = .ok (.ldc2_w 317, 3) := by decide +kernel
theorem dX9_comes_31 : decode cX9_comes 31 = .ok (.goto 9, 3) := by decide +kernel
theorem dX9_comes_34 : decode cX9_comes 34 = .ok (.aload_n 0, 1) := by decide +kernel
theorem dX9_comes_35 : decode cX9_comes 35 = .ok (.getfield 73, 3) := by decide +kernel
theorem dX9_comes_38 : decode cX9_comes 38 = .ok (.iload_n 1, 1) := by decide +kernel
theorem dX9_comes_39 : decode cX9_comes 39 = .ok (.laload, 1) := by decide +kernel
theorem dX9_comes_40 : decode cX9_comes 40 = .ok (.lreturn, 1) := by decide +kernel
theorem dX9_room_0 : decode cX9_room 0 = .ok (.aload_n 0, 1) := by decide +kernel
theorem dX9_room_1 : decode cX9_room 1 = .ok (.iconst 0, 1) := by decide +kernel
theorem dX9_room_2 : decode cX9_room 2 = .ok (.putfield 103, 3) := by decide +kernel
theorem dX9_room_5 : decode cX9_room 5 = .ok (.aload_n 0, 1) := by decide +kernel
theorem dX9_room_6 : decode cX9_room 6 = .ok (.iload_n 1, 1) := by decide +kernel
theorem dX9_room_7 : decode cX9_room 7 = .ok (.invokevirtual 252, 3) := by decide +kernel
theorem dX9_room_10 : decode cX9_room 10 = .ok (.ifCond .ne 7, 3) := by decide +kernel
theorem dX9_room_13 : decode cX9_room 13 = .ok (.ldc2_w 317, 3) := by decide +kernel
theorem dX9_room_16 : decode cX9_room 16 = .ok (.lreturn, 1) := by decide +kernel
theorem dX9_room_17 : decode cX9_room 17 = .ok (.aload_n 0, 1) := by decide +kernel
theorem dX9_room_18 : decode cX9_room 18 = .ok (.invokevirtual 306, 3) := by decide +kernel
theorem dX9_room_21 : decode cX9_room 21 = .ok (.aload_n 0, 1) := by decide +kernel
theorem dX9_room_22 : decode cX9_room 22 = .ok (.getfield 303, 3) := by decide +kernel
theorem dX9_room_25 : decode cX9_room 25 = .ok (.ifCond .eq 9, 3) := by decide +kernel
theorem dX9_room_28 : decode cX9_room 28 = .ok (.ldc2_w 317, 3) := by decide +kernel
theorem dX9_room_31 : decode cX9_room 31 = .ok (.goto 20, 3) := by decide +kernel
theorem dX9_room_34 : decode cX9_room 34 = .ok (.aload_n 0, 1) := by decide +kernel
theorem dX9_room_35 : decode cX9_room 35 = .ok (.iload_n 1, 1) := by decide +kernel
theorem dX9_room_36 : decode cX9_room 36 = .ok (.aload_n 0, 1) := by decide +kernel
theorem dX9_room_37 : decode cX9_room 37 = .ok (.getfield 69, 3) := by decide +kernel
theorem dX9_room_40 : decode cX9_room 40 = .ok (.iload_n 1, 1) := by decide +kernel
theorem dX9_room_41 : decode cX9_room 41 = .ok (.laload, 1) := by decide +kernel
theorem dX9_room_42 : decode cX9_room 42 = .ok (.aload_n 0, 1) := by decide +kernel
theorem dX9_room_43 : decode cX9_room 43 = .ok (.getfield 73, 3) := by decide +kernel
theorem dX9_room_46 : decode cX9_room 46 = .ok (.iload_n 1, 1) := by decide +kernel
theorem dX9_room_47 : decode cX9_room 47 = .ok (.laload, 1) := by decide +kernel
theorem dX9_room_48 : decode cX9_room 48 = .ok (.invokevirtual 309, 3) := by decide +kernel
theorem dX9_room_51 : decode cX9_room 51 = .ok (.lreturn, 1) := by decide +kernel
theorem dX9_latestTo_0 : decode cX9_latestTo 0 = .ok (.bipush (-2), 2) := by decide +kernel
theorem dX9_latestTo_2 : decode cX9_latestTo 2 = .ok (.istore_n 2, 1) := by decide +kernel
theorem dX9_latestTo_3 : decode cX9_latestTo 3 = .ok (.iconst 0, 1) := by decide +kernel
theorem dX9_latestTo_4 : decode cX9_latestTo 4 = .ok (.istore_n 3, 1) := by decide +kernel
theorem dX9_latestTo_5 : decode cX9_latestTo 5 = .ok (.iload_n 3, 1) := by decide +kernel
theorem dX9_latestTo_6 : decode cX9_latestTo 6 = .ok (.aload_n 0, 1) := by decide +kernel
theorem dX9_latestTo_7 : decode cX9_latestTo 7 = .ok (.invokevirtual 236, 3) := by decide +kernel
theorem dX9_latestTo_10 : decode cX9_latestTo 10 = .ok (.if_icmp .ge 49, 3) := by decide +kernel
theorem dX9_latestTo_13 : decode cX9_latestTo 13 = .ok (.aload_n 0, 1) := by decide +kernel
theorem dX9_latestTo_14 : decode cX9_latestTo 14 = .ok (.getfield 50, 3) := by decide +kernel
theorem dX9_latestTo_17 : decode cX9_latestTo 17 = .ok (.iload_n 3, 1) := by decide +kernel
theorem dX9_latestTo_18 : decode cX9_latestTo 18 = .ok (.iaload, 1) := by decide +kernel
theorem dX9_latestTo_19 : decode cX9_latestTo 19 = .ok (.iload_n 1, 1) := by decide +kernel
theorem dX9_latestTo_20 : decode cX9_latestTo 20 = .ok (.if_icmp .ne 33, 3) := by decide +kernel
theorem dX9_latestTo_23 : decode cX9_latestTo 23 = .ok (.iload_n 2, 1) := by decide +kernel
theorem dX9_latestTo_24 : decode cX9_latestTo 24 = .ok (.bipush (-2), 2) := by decide +kernel
theorem dX9_latestTo_26 : decode cX9_latestTo 26 = .ok (.if_icmp .eq 25, 3) := by decide +kernel
theorem dX9_latestTo_29 : decode cX9_latestTo 29 = .ok (.aload_n 0, 1) := by decide +kernel
theorem dX9_latestTo_30 : decode cX9_latestTo 30 = .ok (.iload_n 3, 1) := by decide +kernel
theorem dX9_latestTo_31 : decode cX9_latestTo 31 = .ok (.aload_n 0, 1) := by decide +kernel
theorem dX9_latestTo_32 : decode cX9_latestTo 32 = .ok (.getfield 69, 3) := by decide +kernel
theorem dX9_latestTo_35 : decode cX9_latestTo 35 = .ok (.invokevirtual 286, 3) := by decide +kernel
theorem dX9_latestTo_38 : decode cX9_latestTo 38 = .ok (.aload_n 0, 1) := by decide +kernel
theorem dX9_latestTo_39 : decode cX9_latestTo 39 = .ok (.iload_n 2, 1) := by decide +kernel
theorem dX9_latestTo_40 : decode cX9_latestTo 40 = .ok (.aload_n 0, 1) := by decide +kernel
theorem dX9_latestTo_41 : decode cX9_latestTo 41 = .ok (.getfield 69, 3) := by decide +kernel
theorem dX9_latestTo_44 : decode cX9_latestTo 44 = .ok (.invokevirtual 286, 3) := by decide +kernel
theorem dX9_latestTo_47 : decode cX9_latestTo 47 = .ok (.lcmp, 1) := by decide +kernel
theorem dX9_latestTo_48 : decode cX9_latestTo 48 = .ok (.ifCond .le 5, 3) := by decide +kernel
theorem dX9_latestTo_51 : decode cX9_latestTo 51 = .ok (.iload_n 3, 1) := by decide +kernel
theorem dX9_latestTo_52 : decode cX9_latestTo 52 = .ok (.istore_n 2, 1) := by decide +kernel
theorem dX9_latestTo_53 : decode cX9_latestTo 53 = .ok (.iinc 3 1, 3) := by decide +kernel
theorem dX9_latestTo_56 : decode cX9_latestTo 56 = .ok (.goto (-51), 3) := by decide +kernel
theorem dX9_latestTo_59 : decode cX9_latestTo 59 = .ok (.iload_n 2, 1) := by decide +kernel
theorem dX9_latestTo_60 : decode cX9_latestTo 60 = .ok (.ireturn, 1) := by decide +kernel
theorem dX9_from_0 : decode cX9_from 0 = .ok (.aload_n 0, 1) := by decide +kernel
theorem dX9_from_1 : decode cX9_from 1 = .ok (.iconst 0, 1) := by decide +kernel
theorem dX9_from_2 : decode cX9_from 2 = .ok (.putfield 103, 3) := by decide +kernel
theorem dX9_from_5 : decode cX9_from 5 = .ok (.aload_n 0, 1) := by decide +kernel
theorem dX9_from_6 : decode cX9_from 6 = .ok (.iload_n 1, 1) := by decide +kernel
theorem dX9_from_7 : decode cX9_from 7 = .ok (.invokevirtual 252, 3) := by decide +kernel
theorem dX9_from_10 : decode cX9_from 10 = .ok (.ifCond .ne 5, 3) := by decide +kernel
theorem dX9_from_13 : decode cX9_from 13 = .ok (.iconst (-1), 1) := by decide +kernel
theorem dX9_from_14 : decode cX9_from 14 = .ok (.ireturn, 1) := by decide +kernel
theorem dX9_from_15 : decode cX9_from 15 = .ok (.aload_n 0, 1) := by decide +kernel
theorem dX9_from_16 : decode cX9_from 16 = .ok (.invokevirtual 306, 3) := by decide +kernel
theorem dX9_from_19 : decode cX9_from 19 = .ok (.aload_n 0, 1) := by decide +kernel
theorem dX9_from_20 : decode cX9_from 20 = .ok (.getfield 303, 3) := by decide +kernel
theorem dX9_from_23 : decode cX9_from 23 = .ok (.ifCond .eq 8, 3) := by decide +kernel
theorem dX9_from_26 : decode cX9_from 26 = .ok (.bipush (-2), 2) := by decide +kernel
theorem dX9_from_28 : decode cX9_from 28 = .ok (.goto 8, 3) := by decide +kernel
theorem dX9_from_31 : decode cX9_from 31 = .ok (.aload_n 0, 1) := by decide +kernel
theorem dX9_from_32 : decode cX9_from 32 = .ok (.iload_n 1, 1) := by decide +kernel
theorem dX9_from_33 : decode cX9_from 33 = .ok (.invokevirtual 319, 3) := by decide +kernel
theorem dX9_from_36 : decode cX9_from 36 = .ok (.ireturn, 1) := by decide +kernel
theorem dX9_laysChain_0 : decode cX9_laysChain 0 = .ok (.aload_n 0, 1) := by decide +kernel
theorem dX9_laysChain_1 : decode cX9_laysChain 1 = .ok (.iconst 0, 1) := by decide +kernel
theorem dX9_laysChain_2 : decode cX9_laysChain 2 = .ok (.putfield 322, 3) := by decide +kernel
theorem dX9_laysChain_5 : decode cX9_laysChain 5 = .ok (.iload_n 1, 1) := by decide +kernel
theorem dX9_laysChain_6 : decode cX9_laysChain 6 = .ok (.istore_n 2, 1) := by decide +kernel
theorem dX9_laysChain_7 : decode cX9_laysChain 7 = .ok (.iconst 0, 1) := by decide +kernel
theorem dX9_laysChain_8 : decode cX9_laysChain 8 = .ok (.istore_n 3, 1) := by decide +kernel
theorem dX9_laysChain_9 : decode cX9_laysChain 9 = .ok (.iconst 1, 1) := by decide +kernel
theorem dX9_laysChain_10 : decode cX9_laysChain 10 = .ok (.istore 4, 2) := by decide +kernel
theorem dX9_laysChain_12 : decode cX9_laysChain 12 = .ok (.iload 4, 2) := by decide +kernel
theorem dX9_laysChain_14 : decode cX9_laysChain 14 = .ok (.ifCond .eq 123, 3) := by decide +kernel
theorem dX9_laysChain_17 : decode cX9_laysChain 17 = .ok (.aload_n 0, 1) := by decide +kernel
theorem dX9_laysChain_18 : decode cX9_laysChain 18 = .ok (.getfield 79, 3) := by decide +kernel
theorem dX9_laysChain_21 : decode cX9_laysChain 21 = .ok (.aload_n 0, 1) := by decide +kernel
theorem dX9_laysChain_22 : decode cX9_laysChain 22 = .ok (.getfield 322, 3) := by decide +kernel
theorem dX9_laysChain_25 : decode cX9_laysChain 25 = .ok (.iload_n 2, 1) := by decide +kernel
theorem dX9_laysChain_26 : decode cX9_laysChain 26 = .ok (.iastore, 1) := by decide +kernel
theorem dX9_laysChain_27 : decode cX9_laysChain 27 = .ok (.aload_n 0, 1) := by decide +kernel
theorem dX9_laysChain_28 : decode cX9_laysChain 28 = .ok (.dup, 1) := by decide +kernel
theorem dX9_laysChain_29 : decode cX9_laysChain 29 = .ok (.getfield 322, 3) := by decide +kernel
theorem dX9_laysChain_32 : decode cX9_laysChain 32 = .ok (.iconst 1, 1) := by decide +kernel
theorem dX9_laysChain_33 : decode cX9_laysChain 33 = .ok (.iadd, 1) := by decide +kernel
theorem dX9_laysChain_34 : decode cX9_laysChain 34 = .ok (.putfield 322, 3) := by decide +kernel
theorem dX9_laysChain_37 : decode cX9_laysChain 37 = .ok (.iload_n 3, 1) := by decide +kernel
theorem dX9_laysChain_38 : decode cX9_laysChain 38 = .ok (.iconst 1, 1) := by decide +kernel
theorem dX9_laysChain_39 : decode cX9_laysChain 39 = .ok (.iload_n 2, 1) := by decide +kernel
theorem dX9_laysChain_40 : decode cX9_laysChain 40 = .ok (.ishl, 1) := by decide +kernel
theorem dX9_laysChain_41 : decode cX9_laysChain 41 = .ok (.ior, 1) := by decide +kernel
theorem dX9_laysChain_42 : decode cX9_laysChain 42 = .ok (.istore_n 3, 1) := by decide +kernel
theorem dX9_laysChain_43 : decode cX9_laysChain 43 = .ok (.aload_n 0, 1) := by decide +kernel
theorem dX9_laysChain_44 : decode cX9_laysChain 44 = .ok (.iload_n 2, 1) := by decide +kernel
theorem dX9_laysChain_45 : decode cX9_laysChain 45 = .ok (.invokevirtual 319, 3) := by decide +kernel
theorem dX9_laysChain_48 : decode cX9_laysChain 48 = .ok (.istore 5, 2) := by decide +kernel
theorem dX9_laysChain_50 : decode cX9_laysChain 50 = .ok (.aload_n 0, 1) := by decide +kernel
theorem dX9_laysChain_51 : decode cX9_laysChain 51 = .ok (.getfield 322, 3) := by decide +kernel
theorem dX9_laysChain_54 : decode cX9_laysChain 54 = .ok (.iconst 1, 1) := by decide +kernel
theorem dX9_laysChain_55 : decode cX9_laysChain 55 = .ok (.if_icmp .le 26, 3) := by decide +kernel
theorem dX9_laysChain_58 : decode cX9_laysChain 58 = .ok (.aload_n 0, 1) := by decide +kernel
theorem dX9_laysChain_59 : decode cX9_laysChain 59 = .ok (.iload_n 2, 1) := by decide +kernel
theorem dX9_laysChain_60 : decode cX9_laysChain 60 = .ok (.invokevirtual 281, 3) := by decide +kernel
theorem dX9_laysChain_63 : decode cX9_laysChain 63 = .ok (.ifCond .ne 14, 3) := by decide +kernel
theorem dX9_laysChain_66 : decode cX9_laysChain 66 = .ok (.aload_n 0, 1) := by decide +kernel
theorem dX9_laysChain_67 : decode cX9_laysChain 67 = .ok (.getfield 69, 3) := by decide +kernel
theorem dX9_laysChain_70 : decode cX9_laysChain 70 = .ok (.iload_n 2, 1) := by decide +kernel
theorem dX9_laysChain_71 : decode cX9_laysChain 71 = .ok (.laload, 1) := by decide +kernel
theorem dX9_laysChain_72 : decode cX9_laysChain 72 = .ok (.lconst 0, 1) := by decide +kernel
theorem dX9_laysChain_73 : decode cX9_laysChain 73 = .ok (.lcmp, 1) := by decide +kernel
theorem dX9_laysChain_74 : decode cX9_laysChain 74 = .ok (.ifCond .ne 7, 3) := by decide +kernel
theorem dX9_laysChain_77 : decode cX9_laysChain 77 = .ok (.iconst 1, 1) := by decide +kernel
theorem dX9_laysChain_78 : decode cX9_laysChain 78 = .ok (.goto 4, 3) := by decide +kernel
theorem dX9_laysChain_81 : decode cX9_laysChain 81 = .ok (.iconst 0, 1) := by decide +kernel
theorem dX9_laysChain_82 : decode cX9_laysChain 82 = .ok (.istore 6, 2) := by decide +kernel
theorem dX9_laysChain_84 : decode cX9_laysChain 84 = .ok (.iload 6, 2) := by decide +kernel
theorem dX9_laysChain_86 : decode cX9_laysChain 86 = .ok (.ifCond .ne 28, 3) := by decide +kernel
theorem dX9_laysChain_89 : decode cX9_laysChain 89 = .ok (.iload 5, 2) := by decide +kernel
theorem dX9_laysChain_91 : decode cX9_laysChain 91 = .ok (.bipush (-2), 2) := by decide +kernel
theorem dX9_laysChain_93 : decode cX9_laysChain 93 = .ok (.if_icmp .eq 21, 3) := by decide +kernel
theorem dX9_laysChain_96 : decode cX9_laysChain 96 = .ok (.iload_n 3, 1) := by decide +kernel
theorem dX9_laysChain_97 : decode cX9_laysChain 97 = .ok (.aload_n 0, 1) := by decide +kernel
theorem dX9_laysChain_98 : decode cX9_laysChain 98 = .ok (.getfield 47, 3) := by decide +kernel
theorem dX9_laysChain_101 : decode cX9_laysChain 101 = .ok (.iload 5, 2) := by decide +kernel
theorem dX9_laysChain_103 : decode cX9_laysChain 103 = .ok (.iaload, 1) := by decide +kernel
theorem dX9_laysChain_104 : decode cX9_laysChain 104 = .ok (.ishr, 1) := by decide +kernel
theorem dX9_laysChain_105 : decode cX9_laysChain 105 = .ok (.iconst 1, 1) := by decide +kernel
theorem dX9_laysChain_106 : decode cX9_laysChain 106 = .ok (.iand, 1) := by decide +kernel
theorem dX9_laysChain_107 : decode cX9_laysChain 107 = .ok (.ifCond .ne 7, 3) := by decide +kernel
theorem dX9_laysChain_110 : decode cX9_laysChain 110 = .ok (.iconst 1, 1) := by decide +kernel
theorem dX9_laysChain_111 : decode cX9_laysChain 111 = .ok (.goto 4, 3) := by decide +kernel
theorem dX9_laysChain_114 : decode cX9_laysChain 114 = .ok (.iconst 0, 1) := by decide +kernel
theorem dX9_laysChain_115 : decode cX9_laysChain 115 = .ok (.istore 4, 2) := by decide +kernel
theorem dX9_laysChain_117 : decode cX9_laysChain 117 = .ok (.iload 4, 2) := by decide +kernel
theorem dX9_laysChain_119 : decode cX9_laysChain 119 = .ok (.ifCond .eq 13, 3) := by decide +kernel
theorem dX9_laysChain_122 : decode cX9_laysChain 122 = .ok (.aload_n 0, 1) := by decide +kernel
theorem dX9_laysChain_123 : decode cX9_laysChain 123 = .ok (.getfield 47, 3) := by decide +kernel
theorem dX9_laysChain_126 : decode cX9_laysChain 126 = .ok (.iload 5, 2) := by decide +kernel
theorem dX9_laysChain_128 : decode cX9_laysChain 128 = .ok (.iaload, 1) := by decide +kernel
theorem dX9_laysChain_129 : decode cX9_laysChain 129 = .ok (.goto 4, 3) := by decide +kernel
theorem dX9_laysChain_132 : decode cX9_laysChain 132 = .ok (.iload_n 2, 1) := by decide +kernel
theorem dX9_laysChain_133 : decode cX9_laysChain 133 = .ok (.istore_n 2, 1) := by decide +kernel
theorem dX9_laysChain_134 : decode cX9_laysChain 134 = .ok (.goto (-122), 3) := by decide +kernel
theorem dX9_laysChain_137 : decode cX9_laysChain 137 = .ok (.return_, 1) := by decide +kernel
theorem dX9_chain_0 : decode cX9_chain 0 = .ok (.aload_n 0, 1) := by decide +kernel
theorem dX9_chain_1 : decode cX9_chain 1 = .ok (.iconst 0, 1) := by decide +kernel
theorem dX9_chain_2 : decode cX9_chain 2 = .ok (.putfield 103, 3) := by decide +kernel
theorem dX9_chain_5 : decode cX9_chain 5 = .ok (.aload_n 0, 1) := by decide +kernel
theorem dX9_chain_6 : decode cX9_chain 6 = .ok (.iload_n 1, 1) := by decide +kernel
theorem dX9_chain_7 : decode cX9_chain 7 = .ok (.invokevirtual 252, 3) := by decide +kernel
theorem dX9_chain_10 : decode cX9_chain 10 = .ok (.ifCond .eq 7, 3) := by decide +kernel
theorem dX9_chain_13 : decode cX9_chain 13 = .ok (.iload_n 2, 1) := by decide +kernel
theorem dX9_chain_14 : decode cX9_chain 14 = .ok (.ifCond .ge 5, 3) := by decide +kernel
theorem dX9_chain_17 : decode cX9_chain 17 = .ok (.iconst (-1), 1) := by decide +kernel
theorem dX9_chain_18 : decode cX9_chain 18 = .ok (.ireturn, 1) := by decide +kernel
theorem dX9_chain_19 : decode cX9_chain 19 = .ok (.aload_n 0, 1) := by decide +kernel
theorem dX9_chain_20 : decode cX9_chain 20 = .ok (.invokevirtual 306, 3) := by decide +kernel
theorem dX9_chain_23 : decode cX9_chain 23 = .ok (.aload_n 0, 1) := by decide +kernel
theorem dX9_chain_24 : decode cX9_chain 24 = .ok (.getfield 303, 3) := by decide +kernel
theorem dX9_chain_27 : decode cX9_chain 27 = .ok (.ifCond .eq 6, 3) := by decide +kernel
theorem dX9_chain_30 : decode cX9_chain 30 = .ok (.bipush (-2), 2) := by decide +kernel
theorem dX9_chain_32 : decode cX9_chain 32 = .ok (.ireturn, 1) := by decide +kernel
theorem dX9_chain_33 : decode cX9_chain 33 = .ok (.aload_n 0, 1) := by decide +kernel
theorem dX9_chain_34 : decode cX9_chain 34 = .ok (.iload_n 1, 1) := by decide +kernel
theorem dX9_chain_35 : decode cX9_chain 35 = .ok (.invokevirtual 325, 3) := by decide +kernel
theorem dX9_chain_38 : decode cX9_chain 38 = .ok (.iload_n 2, 1) := by decide +kernel
theorem dX9_chain_39 : decode cX9_chain 39 = .ok (.aload_n 0, 1) := by decide +kernel
theorem dX9_chain_40 : decode cX9_chain 40 = .ok (.getfield 322, 3) := by decide +kernel
theorem dX9_chain_43 : decode cX9_chain 43 = .ok (.if_icmp .ge 12, 3) := by decide +kernel
theorem dX9_chain_46 : decode cX9_chain 46 = .ok (.aload_n 0, 1) := by decide +kernel
theorem dX9_chain_47 : decode cX9_chain 47 = .ok (.getfield 79, 3) := by decide +kernel
theorem dX9_chain_50 : decode cX9_chain 50 = .ok (.iload_n 2, 1) := by decide +kernel
theorem dX9_chain_51 : decode cX9_chain 51 = .ok (.iaload, 1) := by decide +kernel
theorem dX9_chain_52 : decode cX9_chain 52 = .ok (.goto 5, 3) := by decide +kernel
theorem dX9_chain_55 : decode cX9_chain 55 = .ok (.bipush (-2), 2) := by decide +kernel
theorem dX9_chain_57 : decode cX9_chain 57 = .ok (.ireturn, 1) := by decide +kernel
theorem dX9_which_0 : decode cX9_which 0 = .ok (.aload_n 0, 1) := by decide +kernel
theorem dX9_which_1 : decode cX9_which 1 = .ok (.iconst 0, 1) := by decide +kernel
theorem dX9_which_2 : decode cX9_which 2 = .ok (.putfield 103, 3) := by decide +kernel
theorem dX9_which_5 : decode cX9_which 5 = .ok (.iload_n 1, 1) := by decide +kernel
theorem dX9_which_6 : decode cX9_which 6 = .ok (.ifCond .lt 8, 3) := by decide +kernel
theorem dX9_which_9 : decode cX9_which 9 = .ok (.iload_n 1, 1) := by decide +kernel
theorem dX9_which_10 : decode cX9_which 10 = .ok (.iconst 1, 1) := by decide +kernel
theorem dX9_which_11 : decode cX9_which 11 = .ok (.if_icmp .le 5, 3) := by decide +kernel
theorem dX9_which_14 : decode cX9_which 14 = .ok (.iconst (-1), 1) := by decide +kernel
theorem dX9_which_15 : decode cX9_which 15 = .ok (.ireturn, 1) := by decide +kernel
theorem dX9_which_16 : decode cX9_which 16 = .ok (.aload_n 0, 1) := by decide +kernel
theorem dX9_which_17 : decode cX9_which 17 = .ok (.invokevirtual 306, 3) := by decide +kernel
theorem dX9_which_20 : decode cX9_which 20 = .ok (.aload_n 0, 1) := by decide +kernel
theorem dX9_which_21 : decode cX9_which 21 = .ok (.getfield 303, 3) := by decide +kernel
theorem dX9_which_24 : decode cX9_which 24 = .ok (.ifCond .eq 6, 3) := by decide +kernel
theorem dX9_which_27 : decode cX9_which 27 = .ok (.bipush (-2), 2) := by decide +kernel
theorem dX9_which_29 : decode cX9_which 29 = .ok (.ireturn, 1) := by decide +kernel
theorem dX9_which_30 : decode cX9_which 30 = .ok (.iconst 0, 1) := by decide +kernel
theorem dX9_which_31 : decode cX9_which 31 = .ok (.istore_n 2, 1) := by decide +kernel
theorem dX9_which_32 : decode cX9_which 32 = .ok (.iconst 0, 1) := by decide +kernel
theorem dX9_which_33 : decode cX9_which 33 = .ok (.istore_n 3, 1) := by decide +kernel
theorem dX9_which_34 : decode cX9_which 34 = .ok (.iload_n 3, 1) := by decide +kernel
theorem dX9_which_35 : decode cX9_which 35 = .ok (.aload_n 0, 1) := by decide +kernel
theorem dX9_which_36 : decode cX9_which 36 = .ok (.invokevirtual 233, 3) := by decide +kernel
theorem dX9_which_39 : decode cX9_which 39 = .ok (.if_icmp .ge 80, 3) := by decide +kernel
theorem dX9_which_42 : decode cX9_which 42 = .ok (.iload_n 1, 1) := by decide +kernel
theorem dX9_which_43 : decode cX9_which 43 = .ok (.ifCond .ne 30, 3) := by decide +kernel
theorem dX9_which_46 : decode cX9_which 46 = .ok (.aload_n 0, 1) := by decide +kernel
theorem dX9_which_47 : decode cX9_which 47 = .ok (.iload_n 3, 1) := by decide +kernel
theorem dX9_which_48 : decode cX9_which 48 = .ok (.invokevirtual 281, 3) := by decide +kernel
theorem dX9_which_51 : decode cX9_which 51 = .ok (.ifCond .ne 18, 3) := by decide +kernel
theorem dX9_which_54 : decode cX9_which 54 = .ok (.aload_n 0, 1) := by decide +kernel
theorem dX9_which_55 : decode cX9_which 55 = .ok (.getfield 69, 3) := by decide +kernel
theorem dX9_which_58 : decode cX9_which 58 = .ok (.iload_n 3, 1) := by decide +kernel
theorem dX9_which_59 : decode cX9_which 59 = .ok (.laload, 1) := by decide +kernel
theorem dX9_which_60 : decode cX9_which 60 = .ok (.lconst 0, 1) := by decide +kernel
theorem dX9_which_61 : decode cX9_which 61 = .ok (.lcmp, 1) := by decide +kernel
theorem dX9_which_62 : decode cX9_which 62 = .ok (.ifCond .le 7, 3) := by decide +kernel
theorem dX9_which_65 : decode cX9_which 65 = .ok (.iconst 1, 1) := by decide +kernel
theorem dX9_which_66 : decode cX9_which 66 = .ok (.goto 34, 3) := by decide +kernel
theorem dX9_which_69 : decode cX9_which 69 = .ok (.iconst 0, 1) := by decide +kernel
theorem dX9_which_70 : decode cX9_which 70 = .ok (.goto 30, 3) := by decide +kernel
theorem dX9_which_73 : decode cX9_which 73 = .ok (.aload_n 0, 1) := by decide +kernel
theorem dX9_which_74 : decode cX9_which 74 = .ok (.iload_n 3, 1) := by decide +kernel
theorem dX9_which_75 : decode cX9_which 75 = .ok (.aload_n 0, 1) := by decide +kernel
theorem dX9_which_76 : decode cX9_which 76 = .ok (.getfield 69, 3) := by decide +kernel
theorem dX9_which_79 : decode cX9_which 79 = .ok (.iload_n 3, 1) := by decide +kernel
theorem dX9_which_80 : decode cX9_which 80 = .ok (.laload, 1) := by decide +kernel
theorem dX9_which_81 : decode cX9_which 81 = .ok (.aload_n 0, 1) := by decide +kernel
theorem dX9_which_82 : decode cX9_which 82 = .ok (.getfield 73, 3) := by decide +kernel
theorem dX9_which_85 : decode cX9_which 85 = .ok (.iload_n 3, 1) := by decide +kernel
theorem dX9_which_86 : decode cX9_which 86 = .ok (.laload, 1) := by decide +kernel
theorem dX9_which_87 : decode cX9_which 87 = .ok (.invokevirtual 309, 3) := by decide +kernel
theorem dX9_which_90 : decode cX9_which 90 = .ok (.lconst 0, 1) := by decide +kernel
theorem dX9_which_91 : decode cX9_which 91 = .ok (.lcmp, 1) := by decide +kernel
theorem dX9_which_92 : decode cX9_which 92 = .ok (.ifCond .ge 7, 3) := by decide +kernel
theorem dX9_which_95 : decode cX9_which 95 = .ok (.iconst 1, 1) := by decide +kernel
theorem dX9_which_96 : decode cX9_which 96 = .ok (.goto 4, 3) := by decide +kernel
theorem dX9_which_99 : decode cX9_which 99 = .ok (.iconst 0, 1) := by decide +kernel
theorem dX9_which_100 : decode cX9_which 100 = .ok (.istore 4, 2) := by decide +kernel
theorem dX9_which_102 : decode cX9_which 102 = .ok (.iload 4, 2) := by decide +kernel
theorem dX9_which_104 : decode cX9_which 104 = .ok (.ifCond .eq 9, 3) := by decide +kernel
theorem dX9_which_107 : decode cX9_which 107 = .ok (.iload_n 2, 1) := by decide +kernel
theorem dX9_which_108 : decode cX9_which 108 = .ok (.iconst 1, 1) := by decide +kernel
theorem dX9_which_109 : decode cX9_which 109 = .ok (.iload_n 3, 1) := by decide +kernel
theorem dX9_which_110 : decode cX9_which 110 = .ok (.ishl, 1) := by decide +kernel
theorem dX9_which_111 : decode cX9_which 111 = .ok (.ior, 1) := by decide +kernel
theorem dX9_which_112 : decode cX9_which 112 = .ok (.istore_n 2, 1) := by decide +kernel
theorem dX9_which_113 : decode cX9_which 113 = .ok (.iinc 3 1, 3) := by decide +kernel
theorem dX9_which_116 : decode cX9_which 116 = .ok (.goto (-82), 3) := by decide +kernel
theorem dX9_which_119 : decode cX9_which 119 = .ok (.iload_n 2, 1) := by decide +kernel
theorem dX9_which_120 : decode cX9_which 120 = .ok (.ireturn, 1) := by decide +kernel
theorem dX9_good_0 : decode cX9_good 0 = .ok (.aload_n 0, 1) := by decide +kernel
theorem dX9_good_1 : decode cX9_good 1 = .ok (.iconst 0, 1) := by decide +kernel
theorem dX9_good_2 : decode cX9_good 2 = .ok (.putfield 103, 3) := by decide +kernel
theorem dX9_good_5 : decode cX9_good 5 = .ok (.aload_n 0, 1) := by decide +kernel
theorem dX9_good_6 : decode cX9_good 6 = .ok (.invokevirtual 328, 3) := by decide +kernel
theorem dX9_good_9 : decode cX9_good 9 = .ok (.istore_n 1, 1) := by decide +kernel
theorem dX9_good_10 : decode cX9_good 10 = .ok (.aload_n 0, 1) := by decide +kernel
theorem dX9_good_11 : decode cX9_good 11 = .ok (.getfield 303, 3) := by decide +kernel
theorem dX9_good_14 : decode cX9_good 14 = .ok (.ifCond .eq 7, 3) := by decide +kernel
theorem dX9_good_17 : decode cX9_good 17 = .ok (.iconst 0, 1) := by decide +kernel
theorem dX9_good_18 : decode cX9_good 18 = .ok (.goto 12, 3) := by decide +kernel
theorem dX9_good_21 : decode cX9_good 21 = .ok (.iload_n 1, 1) := by decide +kernel
theorem dX9_good_22 : decode cX9_good 22 = .ok (.ifCond .eq 7, 3) := by decide +kernel
theorem dX9_good_25 : decode cX9_good 25 = .ok (.iconst 2, 1) := by decide +kernel
theorem dX9_good_26 : decode cX9_good 26 = .ok (.goto 4, 3) := by decide +kernel
theorem dX9_good_29 : decode cX9_good 29 = .ok (.iconst 1, 1) := by decide +kernel
theorem dX9_good_30 : decode cX9_good 30 = .ok (.ireturn, 1) := by decide +kernel
theorem dX9_gapOf_0 : decode cX9_gapOf 0 = .ok (.ldc2_w 275, 3) := by decide +kernel
theorem dX9_gapOf_3 : decode cX9_gapOf 3 = .ok (.aload_n 0, 1) := by decide +kernel
theorem dX9_gapOf_4 : decode cX9_gapOf 4 = .ok (.getfield 41, 3) := by decide +kernel
theorem dX9_gapOf_7 : decode cX9_gapOf 7 = .ok (.aload_n 0, 1) := by decide +kernel
theorem dX9_gapOf_8 : decode cX9_gapOf 8 = .ok (.getfield 47, 3) := by decide +kernel
theorem dX9_gapOf_11 : decode cX9_gapOf 11 = .ok (.iload_n 1, 1) := by decide +kernel
theorem dX9_gapOf_12 : decode cX9_gapOf 12 = .ok (.iaload, 1) := by decide +kernel
theorem dX9_gapOf_13 : decode cX9_gapOf 13 = .ok (.iaload, 1) := by decide +kernel
theorem dX9_gapOf_14 : decode cX9_gapOf 14 = .ok (.aload_n 0, 1) := by decide +kernel
theorem dX9_gapOf_15 : decode cX9_gapOf 15 = .ok (.getfield 63, 3) := by decide +kernel
theorem dX9_gapOf_18 : decode cX9_gapOf 18 = .ok (.bipush 43, 2) := by decide +kernel
theorem dX9_gapOf_20 : decode cX9_gapOf 20 = .ok (.iload_n 1, 1) := by decide +kernel
theorem dX9_gapOf_21 : decode cX9_gapOf 21 = .ok (.iadd, 1) := by decide +kernel
theorem dX9_gapOf_22 : decode cX9_gapOf 22 = .ok (.iaload, 1) := by decide +kernel
theorem dX9_gapOf_23 : decode cX9_gapOf 23 = .ok (.iadd, 1) := by decide +kernel
theorem dX9_gapOf_24 : decode cX9_gapOf 24 = .ok (.aload_n 0, 1) := by decide +kernel
theorem dX9_gapOf_25 : decode cX9_gapOf 25 = .ok (.getfield 63, 3) := by decide +kernel
theorem dX9_gapOf_28 : decode cX9_gapOf 28 = .ok (.bipush 67, 2) := by decide +kernel
theorem dX9_gapOf_30 : decode cX9_gapOf 30 = .ok (.iaload, 1) := by decide +kernel
theorem dX9_gapOf_31 : decode cX9_gapOf 31 = .ok (.isub, 1) := by decide +kernel
theorem dX9_gapOf_32 : decode cX9_gapOf 32 = .ok (.i2l, 1) := by decide +kernel
theorem dX9_gapOf_33 : decode cX9_gapOf 33 = .ok (.lmul, 1) := by decide +kernel
theorem dX9_gapOf_34 : decode cX9_gapOf 34 = .ok (.aload_n 0, 1) := by decide +kernel
theorem dX9_gapOf_35 : decode cX9_gapOf 35 = .ok (.iload_n 1, 1) := by decide +kernel
theorem dX9_gapOf_36 : decode cX9_gapOf 36 = .ok (.invokevirtual 272, 3) := by decide +kernel
theorem dX9_gapOf_39 : decode cX9_gapOf 39 = .ok (.i2l, 1) := by decide +kernel
theorem dX9_gapOf_40 : decode cX9_gapOf 40 = .ok (.aload_n 0, 1) := by decide +kernel
theorem dX9_gapOf_41 : decode cX9_gapOf 41 = .ok (.invokevirtual 277, 3) := by decide +kernel
theorem dX9_gapOf_44 : decode cX9_gapOf 44 = .ok (.lmul, 1) := by decide +kernel
theorem dX9_gapOf_45 : decode cX9_gapOf 45 = .ok (.lsub, 1) := by decide +kernel
theorem dX9_gapOf_46 : decode cX9_gapOf 46 = .ok (.lstore_n 2, 1) := by decide +kernel
theorem dX9_gapOf_47 : decode cX9_gapOf 47 = .ok (.aload_n 0, 1) := by decide +kernel
theorem dX9_gapOf_48 : decode cX9_gapOf 48 = .ok (.aload_n 0, 1) := by decide +kernel
theorem dX9_gapOf_49 : decode cX9_gapOf 49 = .ok (.getfield 50, 3) := by decide +kernel
theorem dX9_gapOf_52 : decode cX9_gapOf 52 = .ok (.iload_n 1, 1) := by decide +kernel
theorem dX9_gapOf_53 : decode cX9_gapOf 53 = .ok (.iaload, 1) := by decide +kernel
theorem dX9_gapOf_54 : decode cX9_gapOf 54 = .ok (.invokevirtual 281, 3) := by decide +kernel
theorem dX9_gapOf_57 : decode cX9_gapOf 57 = .ok (.ifCond .eq 7, 3) := by decide +kernel
theorem dX9_gapOf_60 : decode cX9_gapOf 60 = .ok (.lconst 0, 1) := by decide +kernel
theorem dX9_gapOf_61 : decode cX9_gapOf 61 = .ok (.goto 27, 3) := by decide +kernel
theorem dX9_gapOf_64 : decode cX9_gapOf 64 = .ok (.aload_n 0, 1) := by decide +kernel
theorem dX9_gapOf_65 : decode cX9_gapOf 65 = .ok (.getfield 63, 3) := by decide +kernel
theorem dX9_gapOf_68 : decode cX9_gapOf 68 = .ok (.iconst 5, 1) := by decide +kernel
theorem dX9_gapOf_69 : decode cX9_gapOf 69 = .ok (.aload_n 0, 1) := by decide +kernel
theorem dX9_gapOf_70 : decode cX9_gapOf 70 = .ok (.getfield 32, 3) := by decide +kernel
theorem dX9_gapOf_73 : decode cX9_gapOf 73 = .ok (.aload_n 0, 1) := by decide +kernel
theorem dX9_gapOf_74 : decode cX9_gapOf 74 = .ok (.getfield 50, 3) := by decide +kernel
theorem dX9_gapOf_77 : decode cX9_gapOf 77 = .ok (.iload_n 1, 1) := by decide +kernel
theorem dX9_gapOf_78 : decode cX9_gapOf 78 = .ok (.iaload, 1) := by decide +kernel
theorem dX9_gapOf_79 : decode cX9_gapOf 79 = .ok (.iaload, 1) := by decide +kernel
theorem dX9_gapOf_80 : decode cX9_gapOf 80 = .ok (.iadd, 1) := by decide +kernel
theorem dX9_gapOf_81 : decode cX9_gapOf 81 = .ok (.iaload, 1) := by decide +kernel
theorem dX9_gapOf_82 : decode cX9_gapOf 82 = .ok (.i2l, 1) := by decide +kernel
theorem dX9_gapOf_83 : decode cX9_gapOf 83 = .ok (.aload_n 0, 1) := by decide +kernel
theorem dX9_gapOf_84 : decode cX9_gapOf 84 = .ok (.invokevirtual 277, 3) := by decide +kernel
theorem dX9_gapOf_87 : decode cX9_gapOf 87 = .ok (.lmul, 1) := by decide +kernel
theorem dX9_gapOf_88 : decode cX9_gapOf 88 = .ok (.lstore 4, 2) := by decide +kernel
theorem dX9_gapOf_90 : decode cX9_gapOf 90 = .ok (.lload_n 2, 1) := by decide +kernel
theorem dX9_gapOf_91 : decode cX9_gapOf 91 = .ok (.ldc2_w 275, 3) := by decide +kernel
theorem dX9_gapOf_94 : decode cX9_gapOf 94 = .ok (.aload_n 0, 1) := by decide +kernel
theorem dX9_gapOf_95 : decode cX9_gapOf 95 = .ok (.invokevirtual 277, 3) := by decide +kernel
theorem dX9_gapOf_98 : decode cX9_gapOf 98 = .ok (.lmul, 1) := by decide +kernel
theorem dX9_gapOf_99 : decode cX9_gapOf 99 = .ok (.ladd, 1) := by decide +kernel
theorem dX9_gapOf_100 : decode cX9_gapOf 100 = .ok (.lload 4, 2) := by decide +kernel
theorem dX9_gapOf_102 : decode cX9_gapOf 102 = .ok (.lsub, 1) := by decide +kernel
theorem dX9_gapOf_103 : decode cX9_gapOf 103 = .ok (.ldc2_w 275, 3) := by decide +kernel
theorem dX9_gapOf_106 : decode cX9_gapOf 106 = .ok (.aload_n 0, 1) := by decide +kernel
theorem dX9_gapOf_107 : decode cX9_gapOf 107 = .ok (.getfield 38, 3) := by decide +kernel
theorem dX9_gapOf_110 : decode cX9_gapOf 110 = .ok (.aload_n 0, 1) := by decide +kernel
theorem dX9_gapOf_111 : decode cX9_gapOf 111 = .ok (.getfield 50, 3) := by decide +kernel
theorem dX9_gapOf_114 : decode cX9_gapOf 114 = .ok (.iload_n 1, 1) := by decide +kernel
theorem dX9_gapOf_115 : decode cX9_gapOf 115 = .ok (.iaload, 1) := by decide +kernel
theorem dX9_gapOf_116 : decode cX9_gapOf 116 = .ok (.iaload, 1) := by decide +kernel
theorem dX9_gapOf_117 : decode cX9_gapOf 117 = .ok (.i2l, 1) := by decide +kernel
theorem dX9_gapOf_118 : decode cX9_gapOf 118 = .ok (.lmul, 1) := by decide +kernel
theorem dX9_gapOf_119 : decode cX9_gapOf 119 = .ok (.lsub, 1) := by decide +kernel
theorem dX9_gapOf_120 : decode cX9_gapOf 120 = .ok (.lreturn, 1) := by decide +kernel
theorem dX9_padOf_0 : decode cX9_padOf 0 = .ok (.aload_n 0, 1) := by decide +kernel
theorem dX9_padOf_1 : decode cX9_padOf 1 = .ok (.iload_n 1, 1) := by decide +kernel
theorem dX9_padOf_2 : decode cX9_padOf 2 = .ok (.invokevirtual 331, 3) := by decide +kernel
theorem dX9_padOf_5 : decode cX9_padOf 5 = .ok (.lstore_n 2, 1) := by decide +kernel
theorem dX9_padOf_6 : decode cX9_padOf 6 = .ok (.lload_n 2, 1) := by decide +kernel
theorem dX9_padOf_7 : decode cX9_padOf 7 = .ok (.lconst 0, 1) := by decide +kernel
theorem dX9_padOf_8 : decode cX9_padOf 8 = .ok (.lcmp, 1) := by decide +kernel
theorem dX9_padOf_9 : decode cX9_padOf 9 = .ok (.ifCond .lt 7, 3) := by decide +kernel
theorem dX9_padOf_12 : decode cX9_padOf 12 = .ok (.iconst 0, 1) := by decide +kernel
theorem dX9_padOf_13 : decode cX9_padOf 13 = .ok (.goto 13, 3) := by decide +kernel
theorem dX9_padOf_16 : decode cX9_padOf 16 = .ok (.ldc2_w 335, 3) := by decide +kernel
theorem dX9_padOf_19 : decode cX9_padOf 19 = .ok (.lload_n 2, 1) := by decide +kernel
theorem dX9_padOf_20 : decode cX9_padOf 20 = .ok (.lsub, 1) := by decide +kernel
theorem dX9_padOf_21 : decode cX9_padOf 21 = .ok (.ldc2_w 275, 3) := by decide +kernel
theorem dX9_padOf_24 : decode cX9_padOf 24 = .ok (.ldiv, 1) := by decide +kernel
theorem dX9_padOf_25 : decode cX9_padOf 25 = .ok (.l2i, 1) := by decide +kernel
theorem dX9_padOf_26 : decode cX9_padOf 26 = .ok (.ireturn, 1) := by decide +kernel
theorem dX9_gap_0 : decode cX9_gap 0 = .ok (.aload_n 0, 1) := by decide +kernel
theorem dX9_gap_1 : decode cX9_gap 1 = .ok (.iconst 0, 1) := by decide +kernel
theorem dX9_gap_2 : decode cX9_gap 2 = .ok (.putfield 103, 3) := by decide +kernel
theorem dX9_gap_5 : decode cX9_gap 5 = .ok (.aload_n 0, 1) := by decide +kernel
theorem dX9_gap_6 : decode cX9_gap 6 = .ok (.iload_n 1, 1) := by decide +kernel
theorem dX9_gap_7 : decode cX9_gap 7 = .ok (.invokevirtual 265, 3) := by decide +kernel
theorem dX9_gap_10 : decode cX9_gap 10 = .ok (.ifCond .eq 11, 3) := by decide +kernel
theorem dX9_gap_13 : decode cX9_gap 13 = .ok (.aload_n 0, 1) := by decide +kernel
theorem dX9_gap_14 : decode cX9_gap 14 = .ok (.iload_n 1, 1) := by decide +kernel
theorem dX9_gap_15 : decode cX9_gap 15 = .ok (.invokevirtual 331, 3) := by decide +kernel
theorem dX9_gap_18 : decode cX9_gap 18 = .ok (.goto 6, 3) := by decide +kernel
theorem dX9_gap_21 : decode cX9_gap 21 = .ok (.ldc2_w 317, 3) := by decide +kernel
theorem dX9_gap_24 : decode cX9_gap 24 = .ok (.lreturn, 1) := by decide +kernel
theorem dX9_pad_0 : decode cX9_pad 0 = .ok (.aload_n 0, 1) := by decide +kernel
theorem dX9_pad_1 : decode cX9_pad 1 = .ok (.iconst 0, 1) := by decide +kernel
theorem dX9_pad_2 : decode cX9_pad 2 = .ok (.putfield 103, 3) := by decide +kernel
theorem dX9_pad_5 : decode cX9_pad 5 = .ok (.aload_n 0, 1) := by decide +kernel
theorem dX9_pad_6 : decode cX9_pad 6 = .ok (.iload_n 1, 1) := by decide +kernel
theorem dX9_pad_7 : decode cX9_pad 7 = .ok (.invokevirtual 265, 3) := by decide +kernel
theorem dX9_pad_10 : decode cX9_pad 10 = .ok (.ifCond .eq 11, 3) := by decide +kernel
theorem dX9_pad_13 : decode cX9_pad 13 = .ok (.aload_n 0, 1) := by decide +kernel
theorem dX9_pad_14 : decode cX9_pad 14 = .ok (.iload_n 1, 1) := by decide +kernel
theorem dX9_pad_15 : decode cX9_pad 15 = .ok (.invokevirtual 337, 3) := by decide +kernel
theorem dX9_pad_18 : decode cX9_pad 18 = .ok (.goto 4, 3) := by decide +kernel
theorem dX9_pad_21 : decode cX9_pad 21 = .ok (.iconst (-1), 1) := by decide +kernel
theorem dX9_pad_22 : decode cX9_pad 22 = .ok (.ireturn, 1) := by decide +kernel
theorem dX9_pads_0 : decode cX9_pads 0 = .ok (.aload_n 0, 1) := by decide +kernel
theorem dX9_pads_1 : decode cX9_pads 1 = .ok (.iconst 0, 1) := by decide +kernel
theorem dX9_pads_2 : decode cX9_pads 2 = .ok (.putfield 103, 3) := by decide +kernel
theorem dX9_pads_5 : decode cX9_pads 5 = .ok (.iconst 0, 1) := by decide +kernel
theorem dX9_pads_6 : decode cX9_pads 6 = .ok (.istore_n 1, 1) := by decide +kernel
theorem dX9_pads_7 : decode cX9_pads 7 = .ok (.iconst 0, 1) := by decide +kernel
theorem dX9_pads_8 : decode cX9_pads 8 = .ok (.istore_n 2, 1) := by decide +kernel
theorem dX9_pads_9 : decode cX9_pads 9 = .ok (.iload_n 2, 1) := by decide +kernel
theorem dX9_pads_10 : decode cX9_pads 10 = .ok (.aload_n 0, 1) := by decide +kernel
theorem dX9_pads_11 : decode cX9_pads 11 = .ok (.invokevirtual 236, 3) := by decide +kernel
theorem dX9_pads_14 : decode cX9_pads 14 = .ok (.if_icmp .ge 17, 3) := by decide +kernel
theorem dX9_pads_17 : decode cX9_pads 17 = .ok (.iload_n 1, 1) := by decide +kernel
theorem dX9_pads_18 : decode cX9_pads 18 = .ok (.aload_n 0, 1) := by decide +kernel
theorem dX9_pads_19 : decode cX9_pads 19 = .ok (.iload_n 2, 1) := by decide +kernel
theorem dX9_pads_20 : decode cX9_pads 20 = .ok (.invokevirtual 337, 3) := by decide +kernel
theorem dX9_pads_23 : decode cX9_pads 23 = .ok (.iadd, 1) := by decide +kernel
theorem dX9_pads_24 : decode cX9_pads 24 = .ok (.istore_n 1, 1) := by decide +kernel
theorem dX9_pads_25 : decode cX9_pads 25 = .ok (.iinc 2 1, 3) := by decide +kernel
theorem dX9_pads_28 : decode cX9_pads 28 = .ok (.goto (-19), 3) := by decide +kernel
theorem dX9_pads_31 : decode cX9_pads 31 = .ok (.iload_n 1, 1) := by decide +kernel
theorem dX9_pads_32 : decode cX9_pads 32 = .ok (.ireturn, 1) := by decide +kernel
theorem dX9_wave_0 : decode cX9_wave 0 = .ok (.aload_n 0, 1) := by decide +kernel
theorem dX9_wave_1 : decode cX9_wave 1 = .ok (.iconst 0, 1) := by decide +kernel
theorem dX9_wave_2 : decode cX9_wave 2 = .ok (.putfield 103, 3) := by decide +kernel
theorem dX9_wave_5 : decode cX9_wave 5 = .ok (.aload_n 0, 1) := by decide +kernel
theorem dX9_wave_6 : decode cX9_wave 6 = .ok (.iload_n 1, 1) := by decide +kernel
theorem dX9_wave_7 : decode cX9_wave 7 = .ok (.invokevirtual 252, 3) := by decide +kernel
theorem dX9_wave_10 : decode cX9_wave 10 = .ok (.ifCond .eq 14, 3) := by decide +kernel
theorem dX9_wave_13 : decode cX9_wave 13 = .ok (.iload_n 2, 1) := by decide +kernel
theorem dX9_wave_14 : decode cX9_wave 14 = .ok (.ifCond .lt 10, 3) := by decide +kernel
theorem dX9_wave_17 : decode cX9_wave 17 = .ok (.iload_n 2, 1) := by decide +kernel
theorem dX9_wave_18 : decode cX9_wave 18 = .ok (.sipush 200, 3) := by decide +kernel
theorem dX9_wave_21 : decode cX9_wave 21 = .ok (.if_icmp .le 7, 3) := by decide +kernel
theorem dX9_wave_24 : decode cX9_wave 24 = .ok (.ldc2_w 317, 3) := by decide +kernel
theorem dX9_wave_27 : decode cX9_wave 27 = .ok (.lreturn, 1) := by decide +kernel
theorem dX9_wave_28 : decode cX9_wave 28 = .ok (.aload_n 0, 1) := by decide +kernel
theorem dX9_wave_29 : decode cX9_wave 29 = .ok (.invokevirtual 293, 3) := by decide +kernel
theorem dX9_wave_32 : decode cX9_wave 32 = .ok (.iconst 0, 1) := by decide +kernel
theorem dX9_wave_33 : decode cX9_wave 33 = .ok (.istore_n 3, 1) := by decide +kernel
theorem dX9_wave_34 : decode cX9_wave 34 = .ok (.iload_n 3, 1) := by decide +kernel
theorem dX9_wave_35 : decode cX9_wave 35 = .ok (.iload_n 2, 1) := by decide +kernel
theorem dX9_wave_36 : decode cX9_wave 36 = .ok (.if_icmp .ge 13, 3) := by decide +kernel
theorem dX9_wave_39 : decode cX9_wave 39 = .ok (.aload_n 0, 1) := by decide +kernel
theorem dX9_wave_40 : decode cX9_wave 40 = .ok (.invokevirtual 296, 3) := by decide +kernel
theorem dX9_wave_43 : decode cX9_wave 43 = .ok (.iinc 3 1, 3) := by decide +kernel
theorem dX9_wave_46 : decode cX9_wave 46 = .ok (.goto (-12), 3) := by decide +kernel
theorem dX9_wave_49 : decode cX9_wave 49 = .ok (.aload_n 0, 1) := by decide +kernel
theorem dX9_wave_50 : decode cX9_wave 50 = .ok (.getfield 69, 3) := by decide +kernel
theorem dX9_wave_53 : decode cX9_wave 53 = .ok (.iload_n 1, 1) := by decide +kernel
theorem dX9_wave_54 : decode cX9_wave 54 = .ok (.laload, 1) := by decide +kernel
theorem dX9_wave_55 : decode cX9_wave 55 = .ok (.lreturn, 1) := by decide +kernel
theorem dX9_fails_0 : decode cX9_fails 0 = .ok (.aload_n 0, 1) := by decide +kernel
theorem dX9_fails_1 : decode cX9_fails 1 = .ok (.iconst 0, 1) := by decide +kernel
theorem dX9_fails_2 : decode cX9_fails 2 = .ok (.putfield 103, 3) := by decide +kernel
theorem dX9_fails_5 : decode cX9_fails 5 = .ok (.aload_n 0, 1) := by decide +kernel
theorem dX9_fails_6 : decode cX9_fails 6 = .ok (.iload_n 1, 1) := by decide +kernel
theorem dX9_fails_7 : decode cX9_fails 7 = .ok (.invokevirtual 252, 3) := by decide +kernel
theorem dX9_fails_10 : decode cX9_fails 10 = .ok (.ifCond .ne 5, 3) := by decide +kernel
theorem dX9_fails_13 : decode cX9_fails 13 = .ok (.iconst (-1), 1) := by decide +kernel
theorem dX9_fails_14 : decode cX9_fails 14 = .ok (.ireturn, 1) := by decide +kernel
theorem dX9_fails_15 : decode cX9_fails 15 = .ok (.aload_n 0, 1) := by decide +kernel
theorem dX9_fails_16 : decode cX9_fails 16 = .ok (.invokevirtual 293, 3) := by decide +kernel
theorem dX9_fails_19 : decode cX9_fails 19 = .ok (.iconst 1, 1) := by decide +kernel
theorem dX9_fails_20 : decode cX9_fails 20 = .ok (.istore_n 2, 1) := by decide +kernel
theorem dX9_fails_21 : decode cX9_fails 21 = .ok (.iload_n 2, 1) := by decide +kernel
theorem dX9_fails_22 : decode cX9_fails 22 = .ok (.sipush 200, 3) := by decide +kernel
theorem dX9_fails_25 : decode cX9_fails 25 = .ok (.if_icmp .gt 37, 3) := by decide +kernel
theorem dX9_fails_28 : decode cX9_fails 28 = .ok (.aload_n 0, 1) := by decide +kernel
theorem dX9_fails_29 : decode cX9_fails 29 = .ok (.invokevirtual 296, 3) := by decide +kernel
theorem dX9_fails_32 : decode cX9_fails 32 = .ok (.aload_n 0, 1) := by decide +kernel
theorem dX9_fails_33 : decode cX9_fails 33 = .ok (.iload_n 1, 1) := by decide +kernel
theorem dX9_fails_34 : decode cX9_fails 34 = .ok (.aload_n 0, 1) := by decide +kernel
theorem dX9_fails_35 : decode cX9_fails 35 = .ok (.getfield 69, 3) := by decide +kernel
theorem dX9_fails_38 : decode cX9_fails 38 = .ok (.iload_n 1, 1) := by decide +kernel
theorem dX9_fails_39 : decode cX9_fails 39 = .ok (.laload, 1) := by decide +kernel
theorem dX9_fails_40 : decode cX9_fails 40 = .ok (.aload_n 0, 1) := by decide +kernel
theorem dX9_fails_41 : decode cX9_fails 41 = .ok (.getfield 73, 3) := by decide +kernel
theorem dX9_fails_44 : decode cX9_fails 44 = .ok (.iload_n 1, 1) := by decide +kernel
theorem dX9_fails_45 : decode cX9_fails 45 = .ok (.laload, 1) := by decide +kernel
theorem dX9_fails_46 : decode cX9_fails 46 = .ok (.invokevirtual 309, 3) := by decide +kernel
theorem dX9_fails_49 : decode cX9_fails 49 = .ok (.lconst 0, 1) := by decide +kernel
theorem dX9_fails_50 : decode cX9_fails 50 = .ok (.lcmp, 1) := by decide +kernel
theorem dX9_fails_51 : decode cX9_fails 51 = .ok (.ifCond .ge 5, 3) := by decide +kernel
theorem dX9_fails_54 : decode cX9_fails 54 = .ok (.iload_n 2, 1) := by decide +kernel
theorem dX9_fails_55 : decode cX9_fails 55 = .ok (.ireturn, 1) := by decide +kernel
theorem dX9_fails_56 : decode cX9_fails 56 = .ok (.iinc 2 1, 3) := by decide +kernel
theorem dX9_fails_59 : decode cX9_fails 59 = .ok (.goto (-38), 3) := by decide +kernel
theorem dX9_fails_62 : decode cX9_fails 62 = .ok (.bipush (-2), 2) := by decide +kernel
theorem dX9_fails_64 : decode cX9_fails 64 = .ok (.ireturn, 1) := by decide +kernel
theorem dX9_divisor_0 : decode cX9_divisor 0 = .ok (.lload_n 0, 1) := by decide +kernel
theorem dX9_divisor_1 : decode cX9_divisor 1 = .ok (.lstore 4, 2) := by decide +kernel
theorem dX9_divisor_3 : decode cX9_divisor 3 = .ok (.lload_n 2, 1) := by decide +kernel
theorem dX9_divisor_4 : decode cX9_divisor 4 = .ok (.lstore 6, 2) := by decide +kernel
theorem dX9_divisor_6 : decode cX9_divisor 6 = .ok (.lload 6, 2) := by decide +kernel
theorem dX9_divisor_8 : decode cX9_divisor 8 = .ok (.lconst 0, 1) := by decide +kernel
theorem dX9_divisor_9 : decode cX9_divisor 9 = .ok (.lcmp, 1) := by decide +kernel
theorem dX9_divisor_10 : decode cX9_divisor 10 = .ok (.ifCond .eq 21, 3) := by decide +kernel
theorem dX9_divisor_13 : decode cX9_divisor 13 = .ok (.lload 4, 2) := by decide +kernel
theorem dX9_divisor_15 : decode cX9_divisor 15 = .ok (.lload 6, 2) := by decide +kernel
theorem dX9_divisor_17 : decode cX9_divisor 17 = .ok (.lrem, 1) := by decide +kernel
theorem dX9_divisor_18 : decode cX9_divisor 18 = .ok (.lstore 8, 2) := by decide +kernel
theorem dX9_divisor_20 : decode cX9_divisor 20 = .ok (.lload 6, 2) := by decide +kernel
theorem dX9_divisor_22 : decode cX9_divisor 22 = .ok (.lstore 4, 2) := by decide +kernel
theorem dX9_divisor_24 : decode cX9_divisor 24 = .ok (.lload 8, 2) := by decide +kernel
theorem dX9_divisor_26 : decode cX9_divisor 26 = .ok (.lstore 6, 2) := by decide +kernel
theorem dX9_divisor_28 : decode cX9_divisor 28 = .ok (.goto (-22), 3) := by decide +kernel
theorem dX9_divisor_31 : decode cX9_divisor 31 = .ok (.lload 4, 2) := by decide +kernel
theorem dX9_divisor_33 : decode cX9_divisor 33 = .ok (.lreturn, 1) := by decide +kernel
theorem dX9_tellsLoop_0 : decode cX9_tellsLoop 0 = .ok (.lconst 0, 1) := by decide +kernel
theorem dX9_tellsLoop_1 : decode cX9_tellsLoop 1 = .ok (.lstore_n 2, 1) := by decide +kernel
theorem dX9_tellsLoop_2 : decode cX9_tellsLoop 2 = .ok (.lconst 0, 1) := by decide +kernel
theorem dX9_tellsLoop_3 : decode cX9_tellsLoop 3 = .ok (.lstore 4, 2) := by decide +kernel
theorem dX9_tellsLoop_5 : decode cX9_tellsLoop 5 = .ok (.iconst 0, 1) := by decide +kernel
theorem dX9_tellsLoop_6 : decode cX9_tellsLoop 6 = .ok (.istore 6, 2) := by decide +kernel
theorem dX9_tellsLoop_8 : decode cX9_tellsLoop 8 = .ok (.iload 6, 2) := by decide +kernel
theorem dX9_tellsLoop_10 : decode cX9_tellsLoop 10 = .ok (.iload_n 1, 1) := by decide +kernel
theorem dX9_tellsLoop_11 : decode cX9_tellsLoop 11 = .ok (.if_icmp .ge 69, 3) := by decide +kernel
theorem dX9_tellsLoop_14 : decode cX9_tellsLoop 14 = .ok (.aload_n 0, 1) := by decide +kernel
theorem dX9_tellsLoop_15 : decode cX9_tellsLoop 15 = .ok (.getfield 85, 3) := by decide +kernel
theorem dX9_tellsLoop_18 : decode cX9_tellsLoop 18 = .ok (.iload 6, 2) := by decide +kernel
theorem dX9_tellsLoop_20 : decode cX9_tellsLoop 20 = .ok (.iaload, 1) := by decide +kernel
theorem dX9_tellsLoop_21 : decode cX9_tellsLoop 21 = .ok (.istore 7, 2) := by decide +kernel
theorem dX9_tellsLoop_23 : decode cX9_tellsLoop 23 = .ok (.lload_n 2, 1) := by decide +kernel
theorem dX9_tellsLoop_24 : decode cX9_tellsLoop 24 = .ok (.ldc2_w 275, 3) := by decide +kernel
theorem dX9_tellsLoop_27 : decode cX9_tellsLoop 27 = .ok (.aload_n 0, 1) := by decide +kernel
theorem dX9_tellsLoop_28 : decode cX9_tellsLoop 28 = .ok (.getfield 41, 3) := by decide +kernel
theorem dX9_tellsLoop_31 : decode cX9_tellsLoop 31 = .ok (.aload_n 0, 1) := by decide +kernel
theorem dX9_tellsLoop_32 : decode cX9_tellsLoop 32 = .ok (.getfield 47, 3) := by decide +kernel
theorem dX9_tellsLoop_35 : decode cX9_tellsLoop 35 = .ok (.iload 7, 2) := by decide +kernel
theorem dX9_tellsLoop_37 : decode cX9_tellsLoop 37 = .ok (.iaload, 1) := by decide +kernel

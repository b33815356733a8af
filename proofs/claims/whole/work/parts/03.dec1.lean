theorem dX0_init_0 : decode cX0_init 0 = .ok (.aload_n 0, 1) := by decide +kernel
theorem dX0_init_1 : decode cX0_init 1 = .ok (.invokespecial 3, 3) := by decide +kernel
theorem dX0_init_4 : decode cX0_init 4 = .ok (.aload_n 0, 1) := by decide +kernel
theorem dX0_init_5 : decode cX0_init 5 = .ok (.bipush 10, 2) := by decide +kernel
theorem dX0_init_7 : decode cX0_init 7 = .ok (.newarray .int, 2) := by decide +kernel
theorem dX0_init_9 : decode cX0_init 9 = .ok (.putfield 9, 3) := by decide +kernel
theorem dX0_init_12 : decode cX0_init 12 = .ok (.aload_n 0, 1) := by decide +kernel
theorem dX0_init_13 : decode cX0_init 13 = .ok (.bipush 100, 2) := by decide +kernel
theorem dX0_init_15 : decode cX0_init 15 = .ok (.newarray .int, 2) := by decide +kernel
theorem dX0_init_17 : decode cX0_init 17 = .ok (.putfield 15, 3) := by decide +kernel
theorem dX0_init_20 : decode cX0_init 20 = .ok (.aload_n 0, 1) := by decide +kernel
theorem dX0_init_21 : decode cX0_init 21 = .ok (.bipush 10, 2) := by decide +kernel
theorem dX0_init_23 : decode cX0_init 23 = .ok (.newarray .int, 2) := by decide +kernel
theorem dX0_init_25 : decode cX0_init 25 = .ok (.putfield 18, 3) := by decide +kernel
theorem dX0_init_28 : decode cX0_init 28 = .ok (.aload_n 0, 1) := by decide +kernel
theorem dX0_init_29 : decode cX0_init 29 = .ok (.bipush 10, 2) := by decide +kernel
theorem dX0_init_31 : decode cX0_init 31 = .ok (.newarray .int, 2) := by decide +kernel
theorem dX0_init_33 : decode cX0_init 33 = .ok (.putfield 21, 3) := by decide +kernel
theorem dX0_init_36 : decode cX0_init 36 = .ok (.aload_n 0, 1) := by decide +kernel
theorem dX0_init_37 : decode cX0_init 37 = .ok (.aload_n 1, 1) := by decide +kernel
theorem dX0_init_38 : decode cX0_init 38 = .ok (.putfield 24, 3) := by decide +kernel
theorem dX0_init_41 : decode cX0_init 41 = .ok (.return_, 1) := by decide +kernel
theorem dX0_look_0 : decode cX0_look 0 = .ok (.aload_n 0, 1) := by decide +kernel
theorem dX0_look_1 : decode cX0_look 1 = .ok (.getfield 28, 3) := by decide +kernel
theorem dX0_look_4 : decode cX0_look 4 = .ok (.ifCond .eq 4, 3) := by decide +kernel
theorem dX0_look_7 : decode cX0_look 7 = .ok (.return_, 1) := by decide +kernel
theorem dX0_look_8 : decode cX0_look 8 = .ok (.aload_n 0, 1) := by decide +kernel
theorem dX0_look_9 : decode cX0_look 9 = .ok (.iconst 1, 1) := by decide +kernel
theorem dX0_look_10 : decode cX0_look 10 = .ok (.putfield 28, 3) := by decide +kernel
theorem dX0_look_13 : decode cX0_look 13 = .ok (.aload_n 0, 1) := by decide +kernel
theorem dX0_look_14 : decode cX0_look 14 = .ok (.iconst 0, 1) := by decide +kernel
theorem dX0_look_15 : decode cX0_look 15 = .ok (.putfield 32, 3) := by decide +kernel
theorem dX0_look_18 : decode cX0_look 18 = .ok (.aload_n 0, 1) := by decide +kernel
theorem dX0_look_19 : decode cX0_look 19 = .ok (.lconst 0, 1) := by decide +kernel
theorem dX0_look_20 : decode cX0_look 20 = .ok (.putfield 36, 3) := by decide +kernel
theorem dX0_look_23 : decode cX0_look 23 = .ok (.aload_n 0, 1) := by decide +kernel
theorem dX0_look_24 : decode cX0_look 24 = .ok (.lconst 1, 1) := by decide +kernel
theorem dX0_look_25 : decode cX0_look 25 = .ok (.putfield 40, 3) := by decide +kernel
theorem dX0_look_28 : decode cX0_look 28 = .ok (.aload_n 0, 1) := by decide +kernel
theorem dX0_look_29 : decode cX0_look 29 = .ok (.invokevirtual 43, 3) := by decide +kernel
theorem dX0_look_32 : decode cX0_look 32 = .ok (.iconst 0, 1) := by decide +kernel
theorem dX0_look_33 : decode cX0_look 33 = .ok (.istore_n 1, 1) := by decide +kernel
theorem dX0_look_34 : decode cX0_look 34 = .ok (.iload_n 1, 1) := by decide +kernel
theorem dX0_look_35 : decode cX0_look 35 = .ok (.aload_n 0, 1) := by decide +kernel
theorem dX0_look_36 : decode cX0_look 36 = .ok (.getfield 24, 3) := by decide +kernel
theorem dX0_look_39 : decode cX0_look 39 = .ok (.getfield 46, 3) := by decide +kernel
theorem dX0_look_42 : decode cX0_look 42 = .ok (.if_icmp .ge 32, 3) := by decide +kernel
theorem dX0_look_45 : decode cX0_look 45 = .ok (.aload_n 0, 1) := by decide +kernel
theorem dX0_look_46 : decode cX0_look 46 = .ok (.getfield 24, 3) := by decide +kernel
theorem dX0_look_49 : decode cX0_look 49 = .ok (.iload_n 1, 1) := by decide +kernel
theorem dX0_look_50 : decode cX0_look 50 = .ok (.invokevirtual 51, 3) := by decide +kernel
theorem dX0_look_53 : decode cX0_look 53 = .ok (.ifCond .ne 15, 3) := by decide +kernel
theorem dX0_look_56 : decode cX0_look 56 = .ok (.aload_n 0, 1) := by decide +kernel
theorem dX0_look_57 : decode cX0_look 57 = .ok (.iload_n 1, 1) := by decide +kernel
theorem dX0_look_58 : decode cX0_look 58 = .ok (.iload_n 1, 1) := by decide +kernel
theorem dX0_look_59 : decode cX0_look 59 = .ok (.iconst 0, 1) := by decide +kernel
theorem dX0_look_60 : decode cX0_look 60 = .ok (.iconst 1, 1) := by decide +kernel
theorem dX0_look_61 : decode cX0_look 61 = .ok (.iload_n 1, 1) := by decide +kernel
theorem dX0_look_62 : decode cX0_look 62 = .ok (.ishl, 1) := by decide +kernel
theorem dX0_look_63 : decode cX0_look 63 = .ok (.iconst 0, 1) := by decide +kernel
theorem dX0_look_64 : decode cX0_look 64 = .ok (.iconst 0, 1) := by decide +kernel
theorem dX0_look_65 : decode cX0_look 65 = .ok (.invokevirtual 55, 3) := by decide +kernel
theorem dX0_look_68 : decode cX0_look 68 = .ok (.iinc 1 1, 3) := by decide +kernel
theorem dX0_look_71 : decode cX0_look 71 = .ok (.goto (-37), 3) := by decide +kernel
theorem dX0_look_74 : decode cX0_look 74 = .ok (.aload_n 0, 1) := by decide +kernel
theorem dX0_look_75 : decode cX0_look 75 = .ok (.invokevirtual 59, 3) := by decide +kernel
theorem dX0_look_78 : decode cX0_look 78 = .ok (.return_, 1) := by decide +kernel
theorem dX0_linkCells_0 : decode cX0_linkCells 0 = .ok (.aload_n 0, 1) := by decide +kernel
theorem dX0_linkCells_1 : decode cX0_linkCells 1 = .ok (.getfield 9, 3) := by decide +kernel
theorem dX0_linkCells_4 : decode cX0_linkCells 4 = .ok (.iconst 0, 1) := by decide +kernel
theorem dX0_linkCells_5 : decode cX0_linkCells 5 = .ok (.invokestatic 62, 3) := by decide +kernel
theorem dX0_linkCells_8 : decode cX0_linkCells 8 = .ok (.iconst 0, 1) := by decide +kernel
theorem dX0_linkCells_9 : decode cX0_linkCells 9 = .ok (.istore_n 1, 1) := by decide +kernel
theorem dX0_linkCells_10 : decode cX0_linkCells 10 = .ok (.iload_n 1, 1) := by decide +kernel
theorem dX0_linkCells_11 : decode cX0_linkCells 11 = .ok (.aload_n 0, 1) := by decide +kernel
theorem dX0_linkCells_12 : decode cX0_linkCells 12 = .ok (.getfield 24, 3) := by decide +kernel
theorem dX0_linkCells_15 : decode cX0_linkCells 15 = .ok (.getfield 68, 3) := by decide +kernel
theorem dX0_linkCells_18 : decode cX0_linkCells 18 = .ok (.if_icmp .ge 75, 3) := by decide +kernel
theorem dX0_linkCells_21 : decode cX0_linkCells 21 = .ok (.aload_n 0, 1) := by decide +kernel
theorem dX0_linkCells_22 : decode cX0_linkCells 22 = .ok (.getfield 24, 3) := by decide +kernel
theorem dX0_linkCells_25 : decode cX0_linkCells 25 = .ok (.getfield 71, 3) := by decide +kernel
theorem dX0_linkCells_28 : decode cX0_linkCells 28 = .ok (.iload_n 1, 1) := by decide +kernel
theorem dX0_linkCells_29 : decode cX0_linkCells 29 = .ok (.iaload, 1) := by decide +kernel
theorem dX0_linkCells_30 : decode cX0_linkCells 30 = .ok (.istore_n 2, 1) := by decide +kernel
theorem dX0_linkCells_31 : decode cX0_linkCells 31 = .ok (.aload_n 0, 1) := by decide +kernel
theorem dX0_linkCells_32 : decode cX0_linkCells 32 = .ok (.getfield 24, 3) := by decide +kernel
theorem dX0_linkCells_35 : decode cX0_linkCells 35 = .ok (.getfield 74, 3) := by decide +kernel
theorem dX0_linkCells_38 : decode cX0_linkCells 38 = .ok (.iload_n 1, 1) := by decide +kernel
theorem dX0_linkCells_39 : decode cX0_linkCells 39 = .ok (.iaload, 1) := by decide +kernel
theorem dX0_linkCells_40 : decode cX0_linkCells 40 = .ok (.istore_n 3, 1) := by decide +kernel
theorem dX0_linkCells_41 : decode cX0_linkCells 41 = .ok (.aload_n 0, 1) := by decide +kernel
theorem dX0_linkCells_42 : decode cX0_linkCells 42 = .ok (.getfield 24, 3) := by decide +kernel
theorem dX0_linkCells_45 : decode cX0_linkCells 45 = .ok (.iload_n 2, 1) := by decide +kernel
theorem dX0_linkCells_46 : decode cX0_linkCells 46 = .ok (.invokevirtual 51, 3) := by decide +kernel
theorem dX0_linkCells_49 : decode cX0_linkCells 49 = .ok (.ifCond .ne 38, 3) := by decide +kernel
theorem dX0_linkCells_52 : decode cX0_linkCells 52 = .ok (.aload_n 0, 1) := by decide +kernel
theorem dX0_linkCells_53 : decode cX0_linkCells 53 = .ok (.getfield 24, 3) := by decide +kernel
theorem dX0_linkCells_56 : decode cX0_linkCells 56 = .ok (.iload_n 3, 1) := by decide +kernel
theorem dX0_linkCells_57 : decode cX0_linkCells 57 = .ok (.invokevirtual 51, 3) := by decide +kernel
theorem dX0_linkCells_60 : decode cX0_linkCells 60 = .ok (.ifCond .ne 27, 3) := by decide +kernel
theorem dX0_linkCells_63 : decode cX0_linkCells 63 = .ok (.aload_n 0, 1) := by decide +kernel
theorem dX0_linkCells_64 : decode cX0_linkCells 64 = .ok (.getfield 9, 3) := by decide +kernel
theorem dX0_linkCells_67 : decode cX0_linkCells 67 = .ok (.iload_n 2, 1) := by decide +kernel
theorem dX0_linkCells_68 : decode cX0_linkCells 68 = .ok (.dup2, 1) := by decide +kernel
theorem dX0_linkCells_69 : decode cX0_linkCells 69 = .ok (.iaload, 1) := by decide +kernel
theorem dX0_linkCells_70 : decode cX0_linkCells 70 = .ok (.iconst 1, 1) := by decide +kernel
theorem dX0_linkCells_71 : decode cX0_linkCells 71 = .ok (.iload_n 3, 1) := by decide +kernel
theorem dX0_linkCells_72 : decode cX0_linkCells 72 = .ok (.ishl, 1) := by decide +kernel
theorem dX0_linkCells_73 : decode cX0_linkCells 73 = .ok (.ior, 1) := by decide +kernel
theorem dX0_linkCells_74 : decode cX0_linkCells 74 = .ok (.iastore, 1) := by decide +kernel
theorem dX0_linkCells_75 : decode cX0_linkCells 75 = .ok (.aload_n 0, 1) := by decide +kernel
theorem dX0_linkCells_76 : decode cX0_linkCells 76 = .ok (.getfield 15, 3) := by decide +kernel
theorem dX0_linkCells_79 : decode cX0_linkCells 79 = .ok (.iload_n 2, 1) := by decide +kernel
theorem dX0_linkCells_80 : decode cX0_linkCells 80 = .ok (.bipush 10, 2) := by decide +kernel
theorem dX0_linkCells_82 : decode cX0_linkCells 82 = .ok (.imul, 1) := by decide +kernel
theorem dX0_linkCells_83 : decode cX0_linkCells 83 = .ok (.iload_n 3, 1) := by decide +kernel
theorem dX0_linkCells_84 : decode cX0_linkCells 84 = .ok (.iadd, 1) := by decide +kernel
theorem dX0_linkCells_85 : decode cX0_linkCells 85 = .ok (.iload_n 1, 1) := by decide +kernel
theorem dX0_linkCells_86 : decode cX0_linkCells 86 = .ok (.iastore, 1) := by decide +kernel
theorem dX0_linkCells_87 : decode cX0_linkCells 87 = .ok (.iinc 1 1, 3) := by decide +kernel
theorem dX0_linkCells_90 : decode cX0_linkCells 90 = .ok (.goto (-80), 3) := by decide +kernel
theorem dX0_linkCells_93 : decode cX0_linkCells 93 = .ok (.return_, 1) := by decide +kernel
theorem dX0_follow_0 : decode cX0_follow 0 = .ok (.iload_n 3, 1) := by decide +kernel
theorem dX0_follow_1 : decode cX0_follow 1 = .ok (.bipush 10, 2) := by decide +kernel
theorem dX0_follow_3 : decode cX0_follow 3 = .ok (.if_icmp .lt 4, 3) := by decide +kernel
theorem dX0_follow_6 : decode cX0_follow 6 = .ok (.return_, 1) := by decide +kernel
theorem dX0_follow_7 : decode cX0_follow 7 = .ok (.aload_n 0, 1) := by decide +kernel
theorem dX0_follow_8 : decode cX0_follow 8 = .ok (.getfield 18, 3) := by decide +kernel
theorem dX0_follow_11 : decode cX0_follow 11 = .ok (.iload_n 3, 1) := by decide +kernel
theorem dX0_follow_12 : decode cX0_follow 12 = .ok (.iload_n 2, 1) := by decide +kernel
theorem dX0_follow_13 : decode cX0_follow 13 = .ok (.iastore, 1) := by decide +kernel
theorem dX0_follow_14 : decode cX0_follow 14 = .ok (.iload_n 1, 1) := by decide +kernel
theorem dX0_follow_15 : decode cX0_follow 15 = .ok (.istore 7, 2) := by decide +kernel
theorem dX0_follow_17 : decode cX0_follow 17 = .ok (.iload 7, 2) := by decide +kernel
theorem dX0_follow_19 : decode cX0_follow 19 = .ok (.aload_n 0, 1) := by decide +kernel
theorem dX0_follow_20 : decode cX0_follow 20 = .ok (.getfield 24, 3) := by decide +kernel
theorem dX0_follow_23 : decode cX0_follow 23 = .ok (.getfield 46, 3) := by decide +kernel
theorem dX0_follow_26 : decode cX0_follow 26 = .ok (.if_icmp .ge 121, 3) := by decide +kernel
theorem dX0_follow_29 : decode cX0_follow 29 = .ok (.aload_n 0, 1) := by decide +kernel
theorem dX0_follow_30 : decode cX0_follow 30 = .ok (.getfield 9, 3) := by decide +kernel
theorem dX0_follow_33 : decode cX0_follow 33 = .ok (.iload_n 2, 1) := by decide +kernel
theorem dX0_follow_34 : decode cX0_follow 34 = .ok (.iaload, 1) := by decide +kernel
theorem dX0_follow_35 : decode cX0_follow 35 = .ok (.iload 7, 2) := by decide +kernel
theorem dX0_follow_37 : decode cX0_follow 37 = .ok (.ishr, 1) := by decide +kernel
theorem dX0_follow_38 : decode cX0_follow 38 = .ok (.iconst 1, 1) := by decide +kernel
theorem dX0_follow_39 : decode cX0_follow 39 = .ok (.iand, 1) := by decide +kernel
theorem dX0_follow_40 : decode cX0_follow 40 = .ok (.ifCond .ne 6, 3) := by decide +kernel
theorem dX0_follow_43 : decode cX0_follow 43 = .ok (.goto 98, 3) := by decide +kernel
theorem dX0_follow_46 : decode cX0_follow 46 = .ok (.aload_n 0, 1) := by decide +kernel
theorem dX0_follow_47 : decode cX0_follow 47 = .ok (.getfield 15, 3) := by decide +kernel
theorem dX0_follow_50 : decode cX0_follow 50 = .ok (.iload_n 2, 1) := by decide +kernel
theorem dX0_follow_51 : decode cX0_follow 51 = .ok (.bipush 10, 2) := by decide +kernel
theorem dX0_follow_53 : decode cX0_follow 53 = .ok (.imul, 1) := by decide +kernel
theorem dX0_follow_54 : decode cX0_follow 54 = .ok (.iload 7, 2) := by decide +kernel
theorem dX0_follow_56 : decode cX0_follow 56 = .ok (.iadd, 1) := by decide +kernel
theorem dX0_follow_57 : decode cX0_follow 57 = .ok (.iaload, 1) := by decide +kernel
theorem dX0_follow_58 : decode cX0_follow 58 = .ok (.istore 8, 2) := by decide +kernel
theorem dX0_follow_60 : decode cX0_follow 60 = .ok (.iload 5, 2) := by decide +kernel
theorem dX0_follow_62 : decode cX0_follow 62 = .ok (.aload_n 0, 1) := by decide +kernel
theorem dX0_follow_63 : decode cX0_follow 63 = .ok (.getfield 24, 3) := by decide +kernel
theorem dX0_follow_66 : decode cX0_follow 66 = .ok (.iload 8, 2) := by decide +kernel
theorem dX0_follow_68 : decode cX0_follow 68 = .ok (.invokevirtual 77, 3) := by decide +kernel
theorem dX0_follow_71 : decode cX0_follow 71 = .ok (.iadd, 1) := by decide +kernel
theorem dX0_follow_72 : decode cX0_follow 72 = .ok (.istore 9, 2) := by decide +kernel
theorem dX0_follow_74 : decode cX0_follow 74 = .ok (.iload 6, 2) := by decide +kernel
theorem dX0_follow_76 : decode cX0_follow 76 = .ok (.aload_n 0, 1) := by decide +kernel
theorem dX0_follow_77 : decode cX0_follow 77 = .ok (.getfield 24, 3) := by decide +kernel
theorem dX0_follow_80 : decode cX0_follow 80 = .ok (.iload 8, 2) := by decide +kernel
theorem dX0_follow_82 : decode cX0_follow 82 = .ok (.invokevirtual 81, 3) := by decide +kernel
theorem dX0_follow_85 : decode cX0_follow 85 = .ok (.iadd, 1) := by decide +kernel
theorem dX0_follow_86 : decode cX0_follow 86 = .ok (.istore 10, 2) := by decide +kernel
theorem dX0_follow_88 : decode cX0_follow 88 = .ok (.iload 7, 2) := by decide +kernel
theorem dX0_follow_90 : decode cX0_follow 90 = .ok (.iload_n 1, 1) := by decide +kernel
theorem dX0_follow_91 : decode cX0_follow 91 = .ok (.if_icmp .ne 19, 3) := by decide +kernel
theorem dX0_follow_94 : decode cX0_follow 94 = .ok (.aload_n 0, 1) := by decide +kernel
theorem dX0_follow_95 : decode cX0_follow 95 = .ok (.iload_n 3, 1) := by decide +kernel
theorem dX0_follow_96 : decode cX0_follow 96 = .ok (.iconst 1, 1) := by decide +kernel
theorem dX0_follow_97 : decode cX0_follow 97 = .ok (.iadd, 1) := by decide +kernel
theorem dX0_follow_98 : decode cX0_follow 98 = .ok (.iload 9, 2) := by decide +kernel
theorem dX0_follow_100 : decode cX0_follow 100 = .ok (.i2l, 1) := by decide +kernel
theorem dX0_follow_101 : decode cX0_follow 101 = .ok (.iload 10, 2) := by decide +kernel
theorem dX0_follow_103 : decode cX0_follow 103 = .ok (.i2l, 1) := by decide +kernel
theorem dX0_follow_104 : decode cX0_follow 104 = .ok (.invokevirtual 84, 3) := by decide +kernel
theorem dX0_follow_107 : decode cX0_follow 107 = .ok (.goto 34, 3) := by decide +kernel
theorem dX0_follow_110 : decode cX0_follow 110 = .ok (.iload 4, 2) := by decide +kernel
theorem dX0_follow_112 : decode cX0_follow 112 = .ok (.iload 7, 2) := by decide +kernel
theorem dX0_follow_114 : decode cX0_follow 114 = .ok (.ishr, 1) := by decide +kernel
theorem dX0_follow_115 : decode cX0_follow 115 = .ok (.iconst 1, 1) := by decide +kernel
theorem dX0_follow_116 : decode cX0_follow 116 = .ok (.iand, 1) := by decide +kernel
theorem dX0_follow_117 : decode cX0_follow 117 = .ok (.ifCond .ne 24, 3) := by decide +kernel
theorem dX0_follow_120 : decode cX0_follow 120 = .ok (.aload_n 0, 1) := by decide +kernel
theorem dX0_follow_121 : decode cX0_follow 121 = .ok (.iload_n 1, 1) := by decide +kernel
theorem dX0_follow_122 : decode cX0_follow 122 = .ok (.iload 7, 2) := by decide +kernel
theorem dX0_follow_124 : decode cX0_follow 124 = .ok (.iload_n 3, 1) := by decide +kernel
theorem dX0_follow_125 : decode cX0_follow 125 = .ok (.iconst 1, 1) := by decide +kernel
theorem dX0_follow_126 : decode cX0_follow 126 = .ok (.iadd, 1) := by decide +kernel
theorem dX0_follow_127 : decode cX0_follow 127 = .ok (.iload 4, 2) := by decide +kernel
theorem dX0_follow_129 : decode cX0_follow 129 = .ok (.iconst 1, 1) := by decide +kernel
theorem dX0_follow_130 : decode cX0_follow 130 = .ok (.iload 7, 2) := by decide +kernel
theorem dX0_follow_132 : decode cX0_follow 132 = .ok (.ishl, 1) := by decide +kernel
theorem dX0_follow_133 : decode cX0_follow 133 = .ok (.ior, 1) := by decide +kernel
theorem dX0_follow_134 : decode cX0_follow 134 = .ok (.iload 9, 2) := by decide +kernel
theorem dX0_follow_136 : decode cX0_follow 136 = .ok (.iload 10, 2) := by decide +kernel
theorem dX0_follow_138 : decode cX0_follow 138 = .ok (.invokevirtual 55, 3) := by decide +kernel
theorem dX0_follow_141 : decode cX0_follow 141 = .ok (.iinc 7 1, 3) := by decide +kernel
theorem dX0_follow_144 : decode cX0_follow 144 = .ok (.goto (-127), 3) := by decide +kernel
theorem dX0_follow_147 : decode cX0_follow 147 = .ok (.return_, 1) := by decide +kernel
theorem dX0_weigh_0 : decode cX0_weigh 0 = .ok (.lload_n 2, 1) := by decide +kernel
theorem dX0_weigh_1 : decode cX0_weigh 1 = .ok (.aload_n 0, 1) := by decide +kernel
theorem dX0_weigh_2 : decode cX0_weigh 2 = .ok (.getfield 40, 3) := by decide +kernel
theorem dX0_weigh_5 : decode cX0_weigh 5 = .ok (.lmul, 1) := by decide +kernel
theorem dX0_weigh_6 : decode cX0_weigh 6 = .ok (.aload_n 0, 1) := by decide +kernel
theorem dX0_weigh_7 : decode cX0_weigh 7 = .ok (.getfield 36, 3) := by decide +kernel
theorem dX0_weigh_10 : decode cX0_weigh 10 = .ok (.lload 4, 2) := by decide +kernel
theorem dX0_weigh_12 : decode cX0_weigh 12 = .ok (.lmul, 1) := by decide +kernel
theorem dX0_weigh_13 : decode cX0_weigh 13 = .ok (.lsub, 1) := by decide +kernel
theorem dX0_weigh_14 : decode cX0_weigh 14 = .ok (.lstore 6, 2) := by decide +kernel
theorem dX0_weigh_16 : decode cX0_weigh 16 = .ok (.aload_n 0, 1) := by decide +kernel
theorem dX0_weigh_17 : decode cX0_weigh 17 = .ok (.getfield 32, 3) := by decide +kernel
theorem dX0_weigh_20 : decode cX0_weigh 20 = .ok (.ifCond .eq 25, 3) := by decide +kernel
theorem dX0_weigh_23 : decode cX0_weigh 23 = .ok (.lload 6, 2) := by decide +kernel
theorem dX0_weigh_25 : decode cX0_weigh 25 = .ok (.lconst 0, 1) := by decide +kernel
theorem dX0_weigh_26 : decode cX0_weigh 26 = .ok (.lcmp, 1) := by decide +kernel
theorem dX0_weigh_27 : decode cX0_weigh 27 = .ok (.ifCond .gt 18, 3) := by decide +kernel
theorem dX0_weigh_30 : decode cX0_weigh 30 = .ok (.lload 6, 2) := by decide +kernel
theorem dX0_weigh_32 : decode cX0_weigh 32 = .ok (.lconst 0, 1) := by decide +kernel
theorem dX0_weigh_33 : decode cX0_weigh 33 = .ok (.lcmp, 1) := by decide +kernel
theorem dX0_weigh_34 : decode cX0_weigh 34 = .ok (.ifCond .ne 41, 3) := by decide +kernel
theorem dX0_weigh_37 : decode cX0_weigh 37 = .ok (.iload_n 1, 1) := by decide +kernel
theorem dX0_weigh_38 : decode cX0_weigh 38 = .ok (.aload_n 0, 1) := by decide +kernel
theorem dX0_weigh_39 : decode cX0_weigh 39 = .ok (.getfield 32, 3) := by decide +kernel
theorem dX0_weigh_42 : decode cX0_weigh 42 = .ok (.if_icmp .ge 33, 3) := by decide +kernel
theorem dX0_weigh_45 : decode cX0_weigh 45 = .ok (.aload_n 0, 1) := by decide +kernel
theorem dX0_weigh_46 : decode cX0_weigh 46 = .ok (.getfield 18, 3) := by decide +kernel
theorem dX0_weigh_49 : decode cX0_weigh 49 = .ok (.iconst 0, 1) := by decide +kernel
theorem dX0_weigh_50 : decode cX0_weigh 50 = .ok (.aload_n 0, 1) := by decide +kernel
theorem dX0_weigh_51 : decode cX0_weigh 51 = .ok (.getfield 21, 3) := by decide +kernel
theorem dX0_weigh_54 : decode cX0_weigh 54 = .ok (.iconst 0, 1) := by decide +kernel
theorem dX0_weigh_55 : decode cX0_weigh 55 = .ok (.iload_n 1, 1) := by decide +kernel
theorem dX0_weigh_56 : decode cX0_weigh 56 = .ok (.invokestatic 88, 3) := by decide +kernel
theorem dX0_weigh_59 : decode cX0_weigh 59 = .ok (.aload_n 0, 1) := by decide +kernel
theorem dX0_weigh_60 : decode cX0_weigh 60 = .ok (.iload_n 1, 1) := by decide +kernel
theorem dX0_weigh_61 : decode cX0_weigh 61 = .ok (.putfield 32, 3) := by decide +kernel
theorem dX0_weigh_64 : decode cX0_weigh 64 = .ok (.aload_n 0, 1) := by decide +kernel
theorem dX0_weigh_65 : decode cX0_weigh 65 = .ok (.lload_n 2, 1) := by decide +kernel
theorem dX0_weigh_66 : decode cX0_weigh 66 = .ok (.putfield 36, 3) := by decide +kernel
theorem dX0_weigh_69 : decode cX0_weigh 69 = .ok (.aload_n 0, 1) := by decide +kernel
theorem dX0_weigh_70 : decode cX0_weigh 70 = .ok (.lload 4, 2) := by decide +kernel
theorem dX0_weigh_72 : decode cX0_weigh 72 = .ok (.putfield 40, 3) := by decide +kernel
theorem dX0_weigh_75 : decode cX0_weigh 75 = .ok (.return_, 1) := by decide +kernel
theorem dX0_reduce_0 : decode cX0_reduce 0 = .ok (.aload_n 0, 1) := by decide +kernel
theorem dX0_reduce_1 : decode cX0_reduce 1 = .ok (.getfield 36, 3) := by decide +kernel
theorem dX0_reduce_4 : decode cX0_reduce 4 = .ok (.lstore_n 1, 1) := by decide +kernel
theorem dX0_reduce_5 : decode cX0_reduce 5 = .ok (.aload_n 0, 1) := by decide +kernel
theorem dX0_reduce_6 : decode cX0_reduce 6 = .ok (.getfield 40, 3) := by decide +kernel
theorem dX0_reduce_9 : decode cX0_reduce 9 = .ok (.lstore_n 3, 1) := by decide +kernel
theorem dX0_reduce_10 : decode cX0_reduce 10 = .ok (.iconst 0, 1) := by decide +kernel
theorem dX0_reduce_11 : decode cX0_reduce 11 = .ok (.istore 5, 2) := by decide +kernel
theorem dX0_reduce_13 : decode cX0_reduce 13 = .ok (.iload 5, 2) := by decide +kernel
theorem dX0_reduce_15 : decode cX0_reduce 15 = .ok (.bipush 64, 2) := by decide +kernel
theorem dX0_reduce_17 : decode cX0_reduce 17 = .ok (.if_icmp .ge 25, 3) := by decide +kernel
theorem dX0_reduce_20 : decode cX0_reduce 20 = .ok (.lload_n 3, 1) := by decide +kernel
theorem dX0_reduce_21 : decode cX0_reduce 21 = .ok (.lconst 0, 1) := by decide +kernel
theorem dX0_reduce_22 : decode cX0_reduce 22 = .ok (.lcmp, 1) := by decide +kernel
theorem dX0_reduce_23 : decode cX0_reduce 23 = .ok (.ifCond .le 19, 3) := by decide +kernel
theorem dX0_reduce_26 : decode cX0_reduce 26 = .ok (.lload_n 1, 1) := by decide +kernel
theorem dX0_reduce_27 : decode cX0_reduce 27 = .ok (.lload_n 3, 1) := by decide +kernel
theorem dX0_reduce_28 : decode cX0_reduce 28 = .ok (.lrem, 1) := by decide +kernel
theorem dX0_reduce_29 : decode cX0_reduce 29 = .ok (.lstore 6, 2) := by decide +kernel
theorem dX0_reduce_31 : decode cX0_reduce 31 = .ok (.lload_n 3, 1) := by decide +kernel
theorem dX0_reduce_32 : decode cX0_reduce 32 = .ok (.lstore_n 1, 1) := by decide +kernel
theorem dX0_reduce_33 : decode cX0_reduce 33 = .ok (.lload 6, 2) := by decide +kernel
theorem dX0_reduce_35 : decode cX0_reduce 35 = .ok (.lstore_n 3, 1) := by decide +kernel
theorem dX0_reduce_36 : decode cX0_reduce 36 = .ok (.iinc 5 1, 3) := by decide +kernel
theorem dX0_reduce_39 : decode cX0_reduce 39 = .ok (.goto (-26), 3) := by decide +kernel
theorem dX0_reduce_42 : decode cX0_reduce 42 = .ok (.lload_n 1, 1) := by decide +kernel
theorem dX0_reduce_43 : decode cX0_reduce 43 = .ok (.lconst 0, 1) := by decide +kernel
theorem dX0_reduce_44 : decode cX0_reduce 44 = .ok (.lcmp, 1) := by decide +kernel
theorem dX0_reduce_45 : decode cX0_reduce 45 = .ok (.ifCond .le 23, 3) := by decide +kernel
theorem dX0_reduce_48 : decode cX0_reduce 48 = .ok (.aload_n 0, 1) := by decide +kernel
theorem dX0_reduce_49 : decode cX0_reduce 49 = .ok (.dup, 1) := by decide +kernel
theorem dX0_reduce_50 : decode cX0_reduce 50 = .ok (.getfield 36, 3) := by decide +kernel
theorem dX0_reduce_53 : decode cX0_reduce 53 = .ok (.lload_n 1, 1) := by decide +kernel
theorem dX0_reduce_54 : decode cX0_reduce 54 = .ok (.ldiv, 1) := by decide +kernel
theorem dX0_reduce_55 : decode cX0_reduce 55 = .ok (.putfield 36, 3) := by decide +kernel
theorem dX0_reduce_58 : decode cX0_reduce 58 = .ok (.aload_n 0, 1) := by decide +kernel
theorem dX0_reduce_59 : decode cX0_reduce 59 = .ok (.dup, 1) := by decide +kernel
theorem dX0_reduce_60 : decode cX0_reduce 60 = .ok (.getfield 40, 3) := by decide +kernel
theorem dX0_reduce_63 : decode cX0_reduce 63 = .ok (.lload_n 1, 1) := by decide +kernel
theorem dX0_reduce_64 : decode cX0_reduce 64 = .ok (.ldiv, 1) := by decide +kernel
theorem dX0_reduce_65 : decode cX0_reduce 65 = .ok (.putfield 40, 3) := by decide +kernel
theorem dX0_reduce_68 : decode cX0_reduce 68 = .ok (.return_, 1) := by decide +kernel
theorem dX0_fewestBreaks_0 : decode cX0_fewestBreaks 0 = .ok (.aload_n 0, 1) := by decide +kernel
theorem dX0_fewestBreaks_1 : decode cX0_fewestBreaks 1 = .ok (.invokevirtual 43, 3) := by decide +kernel
theorem dX0_fewestBreaks_4 : decode cX0_fewestBreaks 4 = .ok (.aload_n 0, 1) := by decide +kernel
theorem dX0_fewestBreaks_5 : decode cX0_fewestBreaks 5 = .ok (.getfield 24, 3) := by decide +kernel
theorem dX0_fewestBreaks_8 : decode cX0_fewestBreaks 8 = .ok (.invokevirtual 94, 3) := by decide +kernel
theorem dX0_fewestBreaks_11 : decode cX0_fewestBreaks 11 = .ok (.istore_n 1, 1) := by decide +kernel
theorem dX0_fewestBreaks_12 : decode cX0_fewestBreaks 12 = .ok (.iload_n 1, 1) := by decide +kernel
theorem dX0_fewestBreaks_13 : decode cX0_fewestBreaks 13 = .ok (.istore_n 2, 1) := by decide +kernel
theorem dX0_fewestBreaks_14 : decode cX0_fewestBreaks 14 = .ok (.iconst 0, 1) := by decide +kernel
theorem dX0_fewestBreaks_15 : decode cX0_fewestBreaks 15 = .ok (.istore_n 3, 1) := by decide +kernel
theorem dX0_fewestBreaks_16 : decode cX0_fewestBreaks 16 = .ok (.iload_n 3, 1) := by decide +kernel
theorem dX0_fewestBreaks_17 : decode cX0_fewestBreaks 17 = .ok (.iload_n 1, 1) := by decide +kernel
theorem dX0_fewestBreaks_18 : decode cX0_fewestBreaks 18 = .ok (.if_icmp .ge 54, 3) := by decide +kernel
theorem dX0_fewestBreaks_21 : decode cX0_fewestBreaks 21 = .ok (.iload_n 3, 1) := by decide +kernel
theorem dX0_fewestBreaks_22 : decode cX0_fewestBreaks 22 = .ok (.invokestatic 98, 3) := by decide +kernel
theorem dX0_fewestBreaks_25 : decode cX0_fewestBreaks 25 = .ok (.iload_n 2, 1) := by decide +kernel
theorem dX0_fewestBreaks_26 : decode cX0_fewestBreaks 26 = .ok (.invokestatic 98, 3) := by decide +kernel
theorem dX0_fewestBreaks_29 : decode cX0_fewestBreaks 29 = .ok (.if_icmp .ge 7, 3) := by decide +kernel
theorem dX0_fewestBreaks_32 : decode cX0_fewestBreaks 32 = .ok (.iconst 1, 1) := by decide +kernel
theorem dX0_fewestBreaks_33 : decode cX0_fewestBreaks 33 = .ok (.goto 4, 3) := by decide +kernel
theorem dX0_fewestBreaks_36 : decode cX0_fewestBreaks 36 = .ok (.iconst 0, 1) := by decide +kernel
theorem dX0_fewestBreaks_37 : decode cX0_fewestBreaks 37 = .ok (.istore 4, 2) := by decide +kernel
theorem dX0_fewestBreaks_39 : decode cX0_fewestBreaks 39 = .ok (.iload 4, 2) := by decide +kernel
theorem dX0_fewestBreaks_41 : decode cX0_fewestBreaks 41 = .ok (.ifCond .eq 25, 3) := by decide +kernel
theorem dX0_fewestBreaks_44 : decode cX0_fewestBreaks 44 = .ok (.iload_n 3, 1) := by decide +kernel
theorem dX0_fewestBreaks_45 : decode cX0_fewestBreaks 45 = .ok (.iload_n 1, 1) := by decide +kernel
theorem dX0_fewestBreaks_46 : decode cX0_fewestBreaks 46 = .ok (.iconst (-1), 1) := by decide +kernel
theorem dX0_fewestBreaks_47 : decode cX0_fewestBreaks 47 = .ok (.ixor, 1) := by decide +kernel
theorem dX0_fewestBreaks_48 : decode cX0_fewestBreaks 48 = .ok (.iand, 1) := by decide +kernel
theorem dX0_fewestBreaks_49 : decode cX0_fewestBreaks 49 = .ok (.ifCond .ne 17, 3) := by decide +kernel
theorem dX0_fewestBreaks_52 : decode cX0_fewestBreaks 52 = .ok (.aload_n 0, 1) := by decide +kernel
theorem dX0_fewestBreaks_53 : decode cX0_fewestBreaks 53 = .ok (.iload_n 1, 1) := by decide +kernel
theorem dX0_fewestBreaks_54 : decode cX0_fewestBreaks 54 = .ok (.iload_n 3, 1) := by decide +kernel
theorem dX0_fewestBreaks_55 : decode cX0_fewestBreaks 55 = .ok (.iconst (-1), 1) := by decide +kernel
theorem dX0_fewestBreaks_56 : decode cX0_fewestBreaks 56 = .ok (.ixor, 1) := by decide +kernel
theorem dX0_fewestBreaks_57 : decode cX0_fewestBreaks 57 = .ok (.iand, 1) := by decide +kernel
theorem dX0_fewestBreaks_58 : decode cX0_fewestBreaks 58 = .ok (.invokevirtual 103, 3) := by decide +kernel
theorem dX0_fewestBreaks_61 : decode cX0_fewestBreaks 61 = .ok (.ifCond .ne 5, 3) := by decide +kernel
theorem dX0_fewestBreaks_64 : decode cX0_fewestBreaks 64 = .ok (.iload_n 3, 1) := by decide +kernel
theorem dX0_fewestBreaks_65 : decode cX0_fewestBreaks 65 = .ok (.istore_n 2, 1) := by decide +kernel
theorem dX0_fewestBreaks_66 : decode cX0_fewestBreaks 66 = .ok (.iinc 3 1, 3) := by decide +kernel
theorem dX0_fewestBreaks_69 : decode cX0_fewestBreaks 69 = .ok (.goto (-53), 3) := by decide +kernel
theorem dX0_fewestBreaks_72 : decode cX0_fewestBreaks 72 = .ok (.iload_n 2, 1) := by decide +kernel
theorem dX0_fewestBreaks_73 : decode cX0_fewestBreaks 73 = .ok (.ireturn, 1) := by decide +kernel
theorem dX0_hasLoop_0 : decode cX0_hasLoop 0 = .ok (.iload_n 1, 1) := by decide +kernel
theorem dX0_hasLoop_1 : decode cX0_hasLoop 1 = .ok (.istore_n 2, 1) := by decide +kernel
theorem dX0_hasLoop_2 : decode cX0_hasLoop 2 = .ok (.iconst 0, 1) := by decide +kernel
theorem dX0_hasLoop_3 : decode cX0_hasLoop 3 = .ok (.istore_n 3, 1) := by decide +kernel
theorem dX0_hasLoop_4 : decode cX0_hasLoop 4 = .ok (.iload_n 3, 1) := by decide +kernel
theorem dX0_hasLoop_5 : decode cX0_hasLoop 5 = .ok (.bipush 10, 2) := by decide +kernel
theorem dX0_hasLoop_7 : decode cX0_hasLoop 7 = .ok (.if_icmp .ge 63, 3) := by decide +kernel
theorem dX0_hasLoop_10 : decode cX0_hasLoop 10 = .ok (.iload_n 2, 1) := by decide +kernel
theorem dX0_hasLoop_11 : decode cX0_hasLoop 11 = .ok (.istore 4, 2) := by decide +kernel
theorem dX0_hasLoop_13 : decode cX0_hasLoop 13 = .ok (.iconst 0, 1) := by decide +kernel
theorem dX0_hasLoop_14 : decode cX0_hasLoop 14 = .ok (.istore 5, 2) := by decide +kernel
theorem dX0_hasLoop_16 : decode cX0_hasLoop 16 = .ok (.iload 5, 2) := by decide +kernel
theorem dX0_hasLoop_18 : decode cX0_hasLoop 18 = .ok (.aload_n 0, 1) := by decide +kernel
theorem dX0_hasLoop_19 : decode cX0_hasLoop 19 = .ok (.getfield 24, 3) := by decide +kernel
theorem dX0_hasLoop_22 : decode cX0_hasLoop 22 = .ok (.getfield 46, 3) := by decide +kernel
theorem dX0_hasLoop_25 : decode cX0_hasLoop 25 = .ok (.if_icmp .ge 30, 3) := by decide +kernel
theorem dX0_hasLoop_28 : decode cX0_hasLoop 28 = .ok (.aload_n 0, 1) := by decide +kernel
theorem dX0_hasLoop_29 : decode cX0_hasLoop 29 = .ok (.getfield 9, 3) := by decide +kernel
theorem dX0_hasLoop_32 : decode cX0_hasLoop 32 = .ok (.iload 5, 2) := by decide +kernel
theorem dX0_hasLoop_34 : decode cX0_hasLoop 34 = .ok (.iaload, 1) := by decide +kernel
theorem dX0_hasLoop_35 : decode cX0_hasLoop 35 = .ok (.iload_n 2, 1) := by decide +kernel
theorem dX0_hasLoop_36 : decode cX0_hasLoop 36 = .ok (.iand, 1) := by decide +kernel
theorem dX0_hasLoop_37 : decode cX0_hasLoop 37 = .ok (.ifCond .ne 12, 3) := by decide +kernel
theorem dX0_hasLoop_40 : decode cX0_hasLoop 40 = .ok (.iload_n 2, 1) := by decide +kernel
theorem dX0_hasLoop_41 : decode cX0_hasLoop 41 = .ok (.iconst 1, 1) := by decide +kernel
theorem dX0_hasLoop_42 : decode cX0_hasLoop 42 = .ok (.iload 5, 2) := by decide +kernel
theorem dX0_hasLoop_44 : decode cX0_hasLoop 44 = .ok (.ishl, 1) := by decide +kernel
theorem dX0_hasLoop_45 : decode cX0_hasLoop 45 = .ok (.iconst (-1), 1) := by decide +kernel
theorem dX0_hasLoop_46 : decode cX0_hasLoop 46 = .ok (.ixor, 1) := by decide +kernel
theorem dX0_hasLoop_47 : decode cX0_hasLoop 47 = .ok (.iand, 1) := by decide +kernel
theorem dX0_hasLoop_48 : decode cX0_hasLoop 48 = .ok (.istore_n 2, 1) := by decide +kernel
theorem dX0_hasLoop_49 : decode cX0_hasLoop 49 = .ok (.iinc 5 1, 3) := by decide +kernel
theorem dX0_hasLoop_52 : decode cX0_hasLoop 52 = .ok (.goto (-36), 3) := by decide +kernel
theorem dX0_hasLoop_55 : decode cX0_hasLoop 55 = .ok (.iload_n 2, 1) := by decide +kernel
theorem dX0_hasLoop_56 : decode cX0_hasLoop 56 = .ok (.iload 4, 2) := by decide +kernel
theorem dX0_hasLoop_58 : decode cX0_hasLoop 58 = .ok (.if_icmp .ne 6, 3) := by decide +kernel
theorem dX0_hasLoop_61 : decode cX0_hasLoop 61 = .ok (.goto 9, 3) := by decide +kernel
theorem dX0_hasLoop_64 : decode cX0_hasLoop 64 = .ok (.iinc 3 1, 3) := by decide +kernel
theorem dX0_hasLoop_67 : decode cX0_hasLoop 67 = .ok (.goto (-63), 3) := by decide +kernel
theorem dX0_hasLoop_70 : decode cX0_hasLoop 70 = .ok (.iload_n 2, 1) := by decide +kernel
theorem dX0_hasLoop_71 : decode cX0_hasLoop 71 = .ok (.ifCond .eq 7, 3) := by decide +kernel
theorem dX0_hasLoop_74 : decode cX0_hasLoop 74 = .ok (.iconst 1, 1) := by decide +kernel
theorem dX0_hasLoop_75 : decode cX0_hasLoop 75 = .ok (.goto 4, 3) := by decide +kernel
theorem dX0_hasLoop_78 : decode cX0_hasLoop 78 = .ok (.iconst 0, 1) := by decide +kernel
theorem dX0_hasLoop_79 : decode cX0_hasLoop 79 = .ok (.ireturn, 1) := by decide +kernel
theorem dX1_init_0 : decode cX1_init 0 = .ok (.aload_n 0, 1) := by decide +kernel
theorem dX1_init_1 : decode cX1_init 1 = .ok (.invokespecial 3, 3) := by decide +kernel
theorem dX1_init_4 : decode cX1_init 4 = .ok (.aload_n 0, 1) := by decide +kernel
theorem dX1_init_5 : decode cX1_init 5 = .ok (.iconst 4, 1) := by decide +kernel
theorem dX1_init_6 : decode cX1_init 6 = .ok (.newarray .int, 2) := by decide +kernel
theorem dX1_init_8 : decode cX1_init 8 = .ok (.putfield 9, 3) := by decide +kernel
theorem dX1_init_11 : decode cX1_init 11 = .ok (.aload_n 0, 1) := by decide +kernel
theorem dX1_init_12 : decode cX1_init 12 = .ok (.iconst 4, 1) := by decide +kernel
theorem dX1_init_13 : decode cX1_init 13 = .ok (.newarray .int, 2) := by decide +kernel
theorem dX1_init_15 : decode cX1_init 15 = .ok (.putfield 15, 3) := by decide +kernel
theorem dX1_init_18 : decode cX1_init 18 = .ok (.aload_n 0, 1) := by decide +kernel
theorem dX1_init_19 : decode cX1_init 19 = .ok (.iconst 4, 1) := by decide +kernel
theorem dX1_init_20 : decode cX1_init 20 = .ok (.newarray .int, 2) := by decide +kernel
theorem dX1_init_22 : decode cX1_init 22 = .ok (.putfield 18, 3) := by decide +kernel
theorem dX1_init_25 : decode cX1_init 25 = .ok (.aload_n 0, 1) := by decide +kernel
theorem dX1_init_26 : decode cX1_init 26 = .ok (.bipush 10, 2) := by decide +kernel
theorem dX1_init_28 : decode cX1_init 28 = .ok (.newarray .int, 2) := by decide +kernel
theorem dX1_init_30 : decode cX1_init 30 = .ok (.putfield 21, 3) := by decide +kernel
theorem dX1_init_33 : decode cX1_init 33 = .ok (.aload_n 0, 1) := by decide +kernel
theorem dX1_init_34 : decode cX1_init 34 = .ok (.bipush 10, 2) := by decide +kernel
theorem dX1_init_36 : decode cX1_init 36 = .ok (.newarray .int, 2) := by decide +kernel
theorem dX1_init_38 : decode cX1_init 38 = .ok (.putfield 24, 3) := by decide +kernel
theorem dX1_init_41 : decode cX1_init 41 = .ok (.aload_n 0, 1) := by decide +kernel
theorem dX1_init_42 : decode cX1_init 42 = .ok (.bipush 10, 2) := by decide +kernel
theorem dX1_init_44 : decode cX1_init 44 = .ok (.newarray .int, 2) := by decide +kernel
theorem dX1_init_46 : decode cX1_init 46 = .ok (.putfield 27, 3) := by decide +kernel
theorem dX1_init_49 : decode cX1_init 49 = .ok (.aload_n 0, 1) := by decide +kernel
theorem dX1_init_50 : decode cX1_init 50 = .ok (.bipush 10, 2) := by decide +kernel
theorem dX1_init_52 : decode cX1_init 52 = .ok (.newarray .int, 2) := by decide +kernel
theorem dX1_init_54 : decode cX1_init 54 = .ok (.putfield 30, 3) := by decide +kernel
theorem dX1_init_57 : decode cX1_init 57 = .ok (.aload_n 0, 1) := by decide +kernel
theorem dX1_init_58 : decode cX1_init 58 = .ok (.bipush 10, 2) := by decide +kernel
theorem dX1_init_60 : decode cX1_init 60 = .ok (.newarray .int, 2) := by decide +kernel
theorem dX1_init_62 : decode cX1_init 62 = .ok (.putfield 33, 3) := by decide +kernel
theorem dX1_init_65 : decode cX1_init 65 = .ok (.aload_n 0, 1) := by decide +kernel
theorem dX1_init_66 : decode cX1_init 66 = .ok (.bipush 24, 2) := by decide +kernel
theorem dX1_init_68 : decode cX1_init 68 = .ok (.newarray .int, 2) := by decide +kernel
theorem dX1_init_70 : decode cX1_init 70 = .ok (.putfield 36, 3) := by decide +kernel
theorem dX1_init_73 : decode cX1_init 73 = .ok (.aload_n 0, 1) := by decide +kernel
theorem dX1_init_74 : decode cX1_init 74 = .ok (.bipush 24, 2) := by decide +kernel
theorem dX1_init_76 : decode cX1_init 76 = .ok (.newarray .int, 2) := by decide +kernel
theorem dX1_init_78 : decode cX1_init 78 = .ok (.putfield 39, 3) := by decide +kernel
theorem dX1_init_81 : decode cX1_init 81 = .ok (.aload_n 0, 1) := by decide +kernel
theorem dX1_init_82 : decode cX1_init 82 = .ok (.bipush 24, 2) := by decide +kernel
theorem dX1_init_84 : decode cX1_init 84 = .ok (.newarray .int, 2) := by decide +kernel
theorem dX1_init_86 : decode cX1_init 86 = .ok (.putfield 42, 3) := by decide +kernel
theorem dX1_init_89 : decode cX1_init 89 = .ok (.aload_n 0, 1) := by decide +kernel
theorem dX1_init_90 : decode cX1_init 90 = .ok (.bipush 24, 2) := by decide +kernel
theorem dX1_init_92 : decode cX1_init 92 = .ok (.newarray .int, 2) := by decide +kernel
theorem dX1_init_94 : decode cX1_init 94 = .ok (.putfield 45, 3) := by decide +kernel
theorem dX1_init_97 : decode cX1_init 97 = .ok (.aload_n 0, 1) := by decide +kernel
theorem dX1_init_98 : decode cX1_init 98 = .ok (.bipush 100, 2) := by decide +kernel
theorem dX1_init_100 : decode cX1_init 100 = .ok (.putfield 48, 3) := by decide +kernel
theorem dX1_init_103 : decode cX1_init 103 = .ok (.return_, 1) := by decide +kernel
theorem dX1_clear_0 : decode cX1_clear 0 = .ok (.aload_n 0, 1) := by decide +kernel
theorem dX1_clear_1 : decode cX1_clear 1 = .ok (.iconst 0, 1) := by decide +kernel
theorem dX1_clear_2 : decode cX1_clear 2 = .ok (.putfield 52, 3) := by decide +kernel
theorem dX1_clear_5 : decode cX1_clear 5 = .ok (.aload_n 0, 1) := by decide +kernel
theorem dX1_clear_6 : decode cX1_clear 6 = .ok (.iconst 0, 1) := by decide +kernel
theorem dX1_clear_7 : decode cX1_clear 7 = .ok (.putfield 55, 3) := by decide +kernel
theorem dX1_clear_10 : decode cX1_clear 10 = .ok (.aload_n 0, 1) := by decide +kernel
theorem dX1_clear_11 : decode cX1_clear 11 = .ok (.iconst 0, 1) := by decide +kernel
theorem dX1_clear_12 : decode cX1_clear 12 = .ok (.putfield 58, 3) := by decide +kernel
theorem dX1_clear_15 : decode cX1_clear 15 = .ok (.aload_n 0, 1) := by decide +kernel
theorem dX1_clear_16 : decode cX1_clear 16 = .ok (.iconst 0, 1) := by decide +kernel
theorem dX1_clear_17 : decode cX1_clear 17 = .ok (.putfield 61, 3) := by decide +kernel
theorem dX1_clear_20 : decode cX1_clear 20 = .ok (.aload_n 0, 1) := by decide +kernel
theorem dX1_clear_21 : decode cX1_clear 21 = .ok (.bipush 100, 2) := by decide +kernel
theorem dX1_clear_23 : decode cX1_clear 23 = .ok (.putfield 48, 3) := by decide +kernel
theorem dX1_clear_26 : decode cX1_clear 26 = .ok (.aload_n 0, 1) := by decide +kernel
theorem dX1_clear_27 : decode cX1_clear 27 = .ok (.iconst 0, 1) := by decide +kernel
theorem dX1_clear_28 : decode cX1_clear 28 = .ok (.putfield 64, 3) := by decide +kernel
theorem dX1_clear_31 : decode cX1_clear 31 = .ok (.aload_n 0, 1) := by decide +kernel
theorem dX1_clear_32 : decode cX1_clear 32 = .ok (.iconst 0, 1) := by decide +kernel
theorem dX1_clear_33 : decode cX1_clear 33 = .ok (.putfield 67, 3) := by decide +kernel
theorem dX1_clear_36 : decode cX1_clear 36 = .ok (.return_, 1) := by decide +kernel
theorem dX1_takeAllOf_0 : decode cX1_takeAllOf 0 = .ok (.aload_n 1, 1) := by decide +kernel
theorem dX1_takeAllOf_1 : decode cX1_takeAllOf 1 = .ok (.getfield 9, 3) := by decide +kernel
theorem dX1_takeAllOf_4 : decode cX1_takeAllOf 4 = .ok (.iconst 0, 1) := by decide +kernel
theorem dX1_takeAllOf_5 : decode cX1_takeAllOf 5 = .ok (.aload_n 0, 1) := by decide +kernel
theorem dX1_takeAllOf_6 : decode cX1_takeAllOf 6 = .ok (.getfield 9, 3) := by decide +kernel
theorem dX1_takeAllOf_9 : decode cX1_takeAllOf 9 = .ok (.iconst 0, 1) := by decide +kernel
theorem dX1_takeAllOf_10 : decode cX1_takeAllOf 10 = .ok (.iconst 4, 1) := by decide +kernel
theorem dX1_takeAllOf_11 : decode cX1_takeAllOf 11 = .ok (.invokestatic 70, 3) := by decide +kernel
theorem dX1_takeAllOf_14 : decode cX1_takeAllOf 14 = .ok (.aload_n 1, 1) := by decide +kernel
theorem dX1_takeAllOf_15 : decode cX1_takeAllOf 15 = .ok (.getfield 15, 3) := by decide +kernel
theorem dX1_takeAllOf_18 : decode cX1_takeAllOf 18 = .ok (.iconst 0, 1) := by decide +kernel
theorem dX1_takeAllOf_19 : decode cX1_takeAllOf 19 = .ok (.aload_n 0, 1) := by decide +kernel
theorem dX1_takeAllOf_20 : decode cX1_takeAllOf 20 = .ok (.getfield 15, 3) := by decide +kernel
theorem dX1_takeAllOf_23 : decode cX1_takeAllOf 23 = .ok (.iconst 0, 1) := by decide +kernel
theorem dX1_takeAllOf_24 : decode cX1_takeAllOf 24 = .ok (.iconst 4, 1) := by decide +kernel
theorem dX1_takeAllOf_25 : decode cX1_takeAllOf 25 = .ok (.invokestatic 70, 3) := by decide +kernel
theorem dX1_takeAllOf_28 : decode cX1_takeAllOf 28 = .ok (.aload_n 1, 1) := by decide +kernel
theorem dX1_takeAllOf_29 : decode cX1_takeAllOf 29 = .ok (.getfield 18, 3) := by decide +kernel
theorem dX1_takeAllOf_32 : decode cX1_takeAllOf 32 = .ok (.iconst 0, 1) := by decide +kernel
theorem dX1_takeAllOf_33 : decode cX1_takeAllOf 33 = .ok (.aload_n 0, 1) := by decide +kernel
theorem dX1_takeAllOf_34 : decode cX1_takeAllOf 34 = .ok (.getfield 18, 3) := by decide +kernel
theorem dX1_takeAllOf_37 : decode cX1_takeAllOf 37 = .ok (.iconst 0, 1) := by decide +kernel
theorem dX1_takeAllOf_38 : decode cX1_takeAllOf 38 = .ok (.iconst 4, 1) := by decide +kernel
theorem dX1_takeAllOf_39 : decode cX1_takeAllOf 39 = .ok (.invokestatic 70, 3) := by decide +kernel
theorem dX1_takeAllOf_42 : decode cX1_takeAllOf 42 = .ok (.aload_n 1, 1) := by decide +kernel
theorem dX1_takeAllOf_43 : decode cX1_takeAllOf 43 = .ok (.getfield 21, 3) := by decide +kernel
theorem dX1_takeAllOf_46 : decode cX1_takeAllOf 46 = .ok (.iconst 0, 1) := by decide +kernel
theorem dX1_takeAllOf_47 : decode cX1_takeAllOf 47 = .ok (.aload_n 0, 1) := by decide +kernel
theorem dX1_takeAllOf_48 : decode cX1_takeAllOf 48 = .ok (.getfield 21, 3) := by decide +kernel
theorem dX1_takeAllOf_51 : decode cX1_takeAllOf 51 = .ok (.iconst 0, 1) := by decide +kernel
theorem dX1_takeAllOf_52 : decode cX1_takeAllOf 52 = .ok (.bipush 10, 2) := by decide +kernel
theorem dX1_takeAllOf_54 : decode cX1_takeAllOf 54 = .ok (.invokestatic 70, 3) := by decide +kernel
theorem dX1_takeAllOf_57 : decode cX1_takeAllOf 57 = .ok (.aload_n 1, 1) := by decide +kernel
theorem dX1_takeAllOf_58 : decode cX1_takeAllOf 58 = .ok (.getfield 24, 3) := by decide +kernel
theorem dX1_takeAllOf_61 : decode cX1_takeAllOf 61 = .ok (.iconst 0, 1) := by decide +kernel
theorem dX1_takeAllOf_62 : decode cX1_takeAllOf 62 = .ok (.aload_n 0, 1) := by decide +kernel
theorem dX1_takeAllOf_63 : decode cX1_takeAllOf 63 = .ok (.getfield 24, 3) := by decide +kernel
theorem dX1_takeAllOf_66 : decode cX1_takeAllOf 66 = .ok (.iconst 0, 1) := by decide +kernel
theorem dX1_takeAllOf_67 : decode cX1_takeAllOf 67 = .ok (.bipush 10, 2) := by decide +kernel
theorem dX1_takeAllOf_69 : decode cX1_takeAllOf 69 = .ok (.invokestatic 70, 3) := by decide +kernel
theorem dX1_takeAllOf_72 : decode cX1_takeAllOf 72 = .ok (.aload_n 1, 1) := by decide +kernel
theorem dX1_takeAllOf_73 : decode cX1_takeAllOf 73 = .ok (.getfield 27, 3) := by decide +kernel
theorem dX1_takeAllOf_76 : decode cX1_takeAllOf 76 = .ok (.iconst 0, 1) := by decide +kernel
theorem dX1_takeAllOf_77 : decode cX1_takeAllOf 77 = .ok (.aload_n 0, 1) := by decide +kernel
theorem dX1_takeAllOf_78 : decode cX1_takeAllOf 78 = .ok (.getfield 27, 3) := by decide +kernel
theorem dX1_takeAllOf_81 : decode cX1_takeAllOf 81 = .ok (.iconst 0, 1) := by decide +kernel
theorem dX1_takeAllOf_82 : decode cX1_takeAllOf 82 = .ok (.bipush 10, 2) := by decide +kernel
theorem dX1_takeAllOf_84 : decode cX1_takeAllOf 84 = .ok (.invokestatic 70, 3) := by decide +kernel
theorem dX1_takeAllOf_87 : decode cX1_takeAllOf 87 = .ok (.aload_n 1, 1) := by decide +kernel
theorem dX1_takeAllOf_88 : decode cX1_takeAllOf 88 = .ok (.getfield 30, 3) := by decide +kernel
theorem dX1_takeAllOf_91 : decode cX1_takeAllOf 91 = .ok (.iconst 0, 1) := by decide +kernel
theorem dX1_takeAllOf_92 : decode cX1_takeAllOf 92 = .ok (.aload_n 0, 1) := by decide +kernel
theorem dX1_takeAllOf_93 : decode cX1_takeAllOf 93 = .ok (.getfield 30, 3) := by decide +kernel
theorem dX1_takeAllOf_96 : decode cX1_takeAllOf 96 = .ok (.iconst 0, 1) := by decide +kernel
theorem dX1_takeAllOf_97 : decode cX1_takeAllOf 97 = .ok (.bipush 10, 2) := by decide +kernel
theorem dX1_takeAllOf_99 : decode cX1_takeAllOf 99 = .ok (.invokestatic 70, 3) := by decide +kernel
theorem dX1_takeAllOf_102 : decode cX1_takeAllOf 102 = .ok (.aload_n 1, 1) := by decide +kernel
theorem dX1_takeAllOf_103 : decode cX1_takeAllOf 103 = .ok (.getfield 33, 3) := by decide +kernel
theorem dX1_takeAllOf_106 : decode cX1_takeAllOf 106 = .ok (.iconst 0, 1) := by decide +kernel
theorem dX1_takeAllOf_107 : decode cX1_takeAllOf 107 = .ok (.aload_n 0, 1) := by decide +kernel
theorem dX1_takeAllOf_108 : decode cX1_takeAllOf 108 = .ok (.getfield 33, 3) := by decide +kernel
theorem dX1_takeAllOf_111 : decode cX1_takeAllOf 111 = .ok (.iconst 0, 1) := by decide +kernel
theorem dX1_takeAllOf_112 : decode cX1_takeAllOf 112 = .ok (.bipush 10, 2) := by decide +kernel
theorem dX1_takeAllOf_114 : decode cX1_takeAllOf 114 = .ok (.invokestatic 70, 3) := by decide +kernel
theorem dX1_takeAllOf_117 : decode cX1_takeAllOf 117 = .ok (.aload_n 1, 1) := by decide +kernel
theorem dX1_takeAllOf_118 : decode cX1_takeAllOf 118 = .ok (.getfield 36, 3) := by decide +kernel
theorem dX1_takeAllOf_121 : decode cX1_takeAllOf 121 = .ok (.iconst 0, 1) := by decide +kernel
theorem dX1_takeAllOf_122 : decode cX1_takeAllOf 122 = .ok (.aload_n 0, 1) := by decide +kernel
theorem dX1_takeAllOf_123 : decode cX1_takeAllOf 123 = .ok (.getfield 36, 3) := by decide +kernel
theorem dX1_takeAllOf_126 : decode cX1_takeAllOf 126 = .ok (.iconst 0, 1) := by decide +kernel
theorem dX1_takeAllOf_127 : decode cX1_takeAllOf 127 = .ok (.bipush 24, 2) := by decide +kernel
theorem dX1_takeAllOf_129 : decode cX1_takeAllOf 129 = .ok (.invokestatic 70, 3) := by decide +kernel
theorem dX1_takeAllOf_132 : decode cX1_takeAllOf 132 = .ok (.aload_n 1, 1) := by decide +kernel
theorem dX1_takeAllOf_133 : decode cX1_takeAllOf 133 = .ok (.getfield 39, 3) := by decide +kernel
theorem dX1_takeAllOf_136 : decode cX1_takeAllOf 136 = .ok (.iconst 0, 1) := by decide +kernel
theorem dX1_takeAllOf_137 : decode cX1_takeAllOf 137 = .ok (.aload_n 0, 1) := by decide +kernel
theorem dX1_takeAllOf_138 : decode cX1_takeAllOf 138 = .ok (.getfield 39, 3) := by decide +kernel
theorem dX1_takeAllOf_141 : decode cX1_takeAllOf 141 = .ok (.iconst 0, 1) := by decide +kernel
theorem dX1_takeAllOf_142 : decode cX1_takeAllOf 142 = .ok (.bipush 24, 2) := by decide +kernel
theorem dX1_takeAllOf_144 : decode cX1_takeAllOf 144 = .ok (.invokestatic 70, 3) := by decide +kernel
theorem dX1_takeAllOf_147 : decode cX1_takeAllOf 147 = .ok (.aload_n 1, 1) := by decide +kernel
theorem dX1_takeAllOf_148 : decode cX1_takeAllOf 148 = .ok (.getfield 42, 3) := by decide +kernel
theorem dX1_takeAllOf_151 : decode cX1_takeAllOf 151 = .ok (.iconst 0, 1) := by decide +kernel
theorem dX1_takeAllOf_152 : decode cX1_takeAllOf 152 = .ok (.aload_n 0, 1) := by decide +kernel
theorem dX1_takeAllOf_153 : decode cX1_takeAllOf 153 = .ok (.getfield 42, 3) := by decide +kernel
theorem dX1_takeAllOf_156 : decode cX1_takeAllOf 156 = .ok (.iconst 0, 1) := by decide +kernel
theorem dX1_takeAllOf_157 : decode cX1_takeAllOf 157 = .ok (.bipush 24, 2) := by decide +kernel
theorem dX1_takeAllOf_159 : decode cX1_takeAllOf 159 = .ok (.invokestatic 70, 3) := by decide +kernel
theorem dX1_takeAllOf_162 : decode cX1_takeAllOf 162 = .ok (.aload_n 1, 1) := by decide +kernel
theorem dX1_takeAllOf_163 : decode cX1_takeAllOf 163 = .ok (.getfield 45, 3) := by decide +kernel
theorem dX1_takeAllOf_166 : decode cX1_takeAllOf 166 = .ok (.iconst 0, 1) := by decide +kernel
theorem dX1_takeAllOf_167 : decode cX1_takeAllOf 167 = .ok (.aload_n 0, 1) := by decide +kernel
theorem dX1_takeAllOf_168 : decode cX1_takeAllOf 168 = .ok (.getfield 45, 3) := by decide +kernel
theorem dX1_takeAllOf_171 : decode cX1_takeAllOf 171 = .ok (.iconst 0, 1) := by decide +kernel
theorem dX1_takeAllOf_172 : decode cX1_takeAllOf 172 = .ok (.bipush 24, 2) := by decide +kernel
theorem dX1_takeAllOf_174 : decode cX1_takeAllOf 174 = .ok (.invokestatic 70, 3) := by decide +kernel
theorem dX1_takeAllOf_177 : decode cX1_takeAllOf 177 = .ok (.aload_n 0, 1) := by decide +kernel
theorem dX1_takeAllOf_178 : decode cX1_takeAllOf 178 = .ok (.aload_n 1, 1) := by decide +kernel
theorem dX1_takeAllOf_179 : decode cX1_takeAllOf 179 = .ok (.getfield 52, 3) := by decide +kernel
theorem dX1_takeAllOf_182 : decode cX1_takeAllOf 182 = .ok (.putfield 52, 3) := by decide +kernel
theorem dX1_takeAllOf_185 : decode cX1_takeAllOf 185 = .ok (.aload_n 0, 1) := by decide +kernel
theorem dX1_takeAllOf_186 : decode cX1_takeAllOf 186 = .ok (.aload_n 1, 1) := by decide +kernel
theorem dX1_takeAllOf_187 : decode cX1_takeAllOf 187 = .ok (.getfield 55, 3) := by decide +kernel
theorem dX1_takeAllOf_190 : decode cX1_takeAllOf 190 = .ok (.putfield 55, 3) := by decide +kernel
theorem dX1_takeAllOf_193 : decode cX1_takeAllOf 193 = .ok (.aload_n 0, 1) := by decide +kernel
theorem dX1_takeAllOf_194 : decode cX1_takeAllOf 194 = .ok (.aload_n 1, 1) := by decide +kernel
theorem dX1_takeAllOf_195 : decode cX1_takeAllOf 195 = .ok (.getfield 58, 3) := by decide +kernel
theorem dX1_takeAllOf_198 : decode cX1_takeAllOf 198 = .ok (.putfield 58, 3) := by decide +kernel
theorem dX1_takeAllOf_201 : decode cX1_takeAllOf 201 = .ok (.aload_n 0, 1) := by decide +kernel
theorem dX1_takeAllOf_202 : decode cX1_takeAllOf 202 = .ok (.aload_n 1, 1) := by decide +kernel
theorem dX1_takeAllOf_203 : decode cX1_takeAllOf 203 = .ok (.getfield 61, 3) := by decide +kernel
theorem dX1_takeAllOf_206 : decode cX1_takeAllOf 206 = .ok (.putfield 61, 3) := by decide +kernel
theorem dX1_takeAllOf_209 : decode cX1_takeAllOf 209 = .ok (.aload_n 0, 1) := by decide +kernel
theorem dX1_takeAllOf_210 : decode cX1_takeAllOf 210 = .ok (.aload_n 1, 1) := by decide +kernel
theorem dX1_takeAllOf_211 : decode cX1_takeAllOf 211 = .ok (.getfield 48, 3) := by decide +kernel
theorem dX1_takeAllOf_214 : decode cX1_takeAllOf 214 = .ok (.putfield 48, 3) := by decide +kernel
theorem dX1_takeAllOf_217 : decode cX1_takeAllOf 217 = .ok (.aload_n 0, 1) := by decide +kernel
theorem dX1_takeAllOf_218 : decode cX1_takeAllOf 218 = .ok (.aload_n 1, 1) := by decide +kernel
theorem dX1_takeAllOf_219 : decode cX1_takeAllOf 219 = .ok (.getfield 64, 3) := by decide +kernel
theorem dX1_takeAllOf_222 : decode cX1_takeAllOf 222 = .ok (.putfield 64, 3) := by decide +kernel
theorem dX1_takeAllOf_225 : decode cX1_takeAllOf 225 = .ok (.aload_n 0, 1) := by decide +kernel
theorem dX1_takeAllOf_226 : decode cX1_takeAllOf 226 = .ok (.aload_n 1, 1) := by decide +kernel
theorem dX1_takeAllOf_227 : decode cX1_takeAllOf 227 = .ok (.getfield 67, 3) := by decide +kernel
theorem dX1_takeAllOf_230 : decode cX1_takeAllOf 230 = .ok (.putfield 67, 3) := by decide +kernel
theorem dX1_takeAllOf_233 : decode cX1_takeAllOf 233 = .ok (.return_, 1) := by decide +kernel
theorem dX1_writeTo_0 : decode cX1_writeTo 0 = .ok (.aload_n 1, 1) := by decide +kernel
theorem dX1_writeTo_1 : decode cX1_writeTo 1 = .ok (.iload_n 2, 1) := by decide +kernel
theorem dX1_writeTo_2 : decode cX1_writeTo 2 = .ok (.aload_n 0, 1) := by decide +kernel
theorem dX1_writeTo_3 : decode cX1_writeTo 3 = .ok (.getfield 48, 3) := by decide +kernel
theorem dX1_writeTo_6 : decode cX1_writeTo 6 = .ok (.iastore, 1) := by decide +kernel
theorem dX1_writeTo_7 : decode cX1_writeTo 7 = .ok (.aload_n 1, 1) := by decide +kernel
theorem dX1_writeTo_8 : decode cX1_writeTo 8 = .ok (.iload_n 2, 1) := by decide +kernel
theorem dX1_writeTo_9 : decode cX1_writeTo 9 = .ok (.iconst 1, 1) := by decide +kernel
theorem dX1_writeTo_10 : decode cX1_writeTo 10 = .ok (.iadd, 1) := by decide +kernel
theorem dX1_writeTo_11 : decode cX1_writeTo 11 = .ok (.aload_n 0, 1) := by decide +kernel
theorem dX1_writeTo_12 : decode cX1_writeTo 12 = .ok (.getfield 64, 3) := by decide +kernel
theorem dX1_writeTo_15 : decode cX1_writeTo 15 = .ok (.iastore, 1) := by decide +kernel
theorem dX1_writeTo_16 : decode cX1_writeTo 16 = .ok (.aload_n 1, 1) := by decide +kernel
theorem dX1_writeTo_17 : decode cX1_writeTo 17 = .ok (.iload_n 2, 1) := by decide +kernel
theorem dX1_writeTo_18 : decode cX1_writeTo 18 = .ok (.iconst 2, 1) := by decide +kernel
theorem dX1_writeTo_19 : decode cX1_writeTo 19 = .ok (.iadd, 1) := by decide +kernel
theorem dX1_writeTo_20 : decode cX1_writeTo 20 = .ok (.aload_n 0, 1) := by decide +kernel
theorem dX1_writeTo_21 : decode cX1_writeTo 21 = .ok (.getfield 61, 3) := by decide +kernel
theorem dX1_writeTo_24 : decode cX1_writeTo 24 = .ok (.iastore, 1) := by decide +kernel
theorem dX1_writeTo_25 : decode cX1_writeTo 25 = .ok (.iload_n 2, 1) := by decide +kernel
theorem dX1_writeTo_26 : decode cX1_writeTo 26 = .ok (.iconst 3, 1) := by decide +kernel
theorem dX1_writeTo_27 : decode cX1_writeTo 27 = .ok (.iadd, 1) := by decide +kernel
theorem dX1_writeTo_28 : decode cX1_writeTo 28 = .ok (.istore_n 3, 1) := by decide +kernel
theorem dX1_writeTo_29 : decode cX1_writeTo 29 = .ok (.aload_n 0, 1) := by decide +kernel
theorem dX1_writeTo_30 : decode cX1_writeTo 30 = .ok (.getfield 15, 3) := by decide +kernel
theorem dX1_writeTo_33 : decode cX1_writeTo 33 = .ok (.iconst 0, 1) := by decide +kernel
theorem dX1_writeTo_34 : decode cX1_writeTo 34 = .ok (.aload_n 1, 1) := by decide +kernel
theorem dX1_writeTo_35 : decode cX1_writeTo 35 = .ok (.iload_n 3, 1) := by decide +kernel
theorem dX1_writeTo_36 : decode cX1_writeTo 36 = .ok (.iconst 4, 1) := by decide +kernel
theorem dX1_writeTo_37 : decode cX1_writeTo 37 = .ok (.invokestatic 70, 3) := by decide +kernel
theorem dX1_writeTo_40 : decode cX1_writeTo 40 = .ok (.aload_n 0, 1) := by decide +kernel
theorem dX1_writeTo_41 : decode cX1_writeTo 41 = .ok (.getfield 18, 3) := by decide +kernel
theorem dX1_writeTo_44 : decode cX1_writeTo 44 = .ok (.iconst 0, 1) := by decide +kernel
theorem dX1_writeTo_45 : decode cX1_writeTo 45 = .ok (.aload_n 1, 1) := by decide +kernel
theorem dX1_writeTo_46 : decode cX1_writeTo 46 = .ok (.iload_n 3, 1) := by decide +kernel
theorem dX1_writeTo_47 : decode cX1_writeTo 47 = .ok (.iconst 4, 1) := by decide +kernel
theorem dX1_writeTo_48 : decode cX1_writeTo 48 = .ok (.iadd, 1) := by decide +kernel
theorem dX1_writeTo_49 : decode cX1_writeTo 49 = .ok (.iconst 4, 1) := by decide +kernel
theorem dX1_writeTo_50 : decode cX1_writeTo 50 = .ok (.invokestatic 70, 3) := by decide +kernel
theorem dX1_writeTo_53 : decode cX1_writeTo 53 = .ok (.iinc 3 8, 3) := by decide +kernel
theorem dX1_writeTo_56 : decode cX1_writeTo 56 = .ok (.aload_n 0, 1) := by decide +kernel
theorem dX1_writeTo_57 : decode cX1_writeTo 57 = .ok (.getfield 42, 3) := by decide +kernel
theorem dX1_writeTo_60 : decode cX1_writeTo 60 = .ok (.iconst 0, 1) := by decide +kernel
theorem dX1_writeTo_61 : decode cX1_writeTo 61 = .ok (.aload_n 1, 1) := by decide +kernel
theorem dX1_writeTo_62 : decode cX1_writeTo 62 = .ok (.iload_n 3, 1) := by decide +kernel
theorem dX1_writeTo_63 : decode cX1_writeTo 63 = .ok (.bipush 24, 2) := by decide +kernel
theorem dX1_writeTo_65 : decode cX1_writeTo 65 = .ok (.invokestatic 70, 3) := by decide +kernel
theorem dX1_writeTo_68 : decode cX1_writeTo 68 = .ok (.aload_n 0, 1) := by decide +kernel
theorem dX1_writeTo_69 : decode cX1_writeTo 69 = .ok (.getfield 45, 3) := by decide +kernel
theorem dX1_writeTo_72 : decode cX1_writeTo 72 = .ok (.iconst 0, 1) := by decide +kernel
theorem dX1_writeTo_73 : decode cX1_writeTo 73 = .ok (.aload_n 1, 1) := by decide +kernel
theorem dX1_writeTo_74 : decode cX1_writeTo 74 = .ok (.iload_n 3, 1) := by decide +kernel
theorem dX1_writeTo_75 : decode cX1_writeTo 75 = .ok (.bipush 24, 2) := by decide +kernel
theorem dX1_writeTo_77 : decode cX1_writeTo 77 = .ok (.iadd, 1) := by decide +kernel
theorem dX1_writeTo_78 : decode cX1_writeTo 78 = .ok (.bipush 24, 2) := by decide +kernel
theorem dX1_writeTo_80 : decode cX1_writeTo 80 = .ok (.invokestatic 70, 3) := by decide +kernel
theorem dX1_writeTo_83 : decode cX1_writeTo 83 = .ok (.return_, 1) := by decide +kernel
theorem dX1_readFrom_0 : decode cX1_readFrom 0 = .ok (.aload_n 0, 1) := by decide +kernel
theorem dX1_readFrom_1 : decode cX1_readFrom 1 = .ok (.aload_n 1, 1) := by decide +kernel
theorem dX1_readFrom_2 : decode cX1_readFrom 2 = .ok (.iload_n 2, 1) := by decide +kernel
theorem dX1_readFrom_3 : decode cX1_readFrom 3 = .ok (.iaload, 1) := by decide +kernel
theorem dX1_readFrom_4 : decode cX1_readFrom 4 = .ok (.putfield 48, 3) := by decide +kernel
theorem dX1_readFrom_7 : decode cX1_readFrom 7 = .ok (.aload_n 0, 1) := by decide +kernel
theorem dX1_readFrom_8 : decode cX1_readFrom 8 = .ok (.aload_n 1, 1) := by decide +kernel
theorem dX1_readFrom_9 : decode cX1_readFrom 9 = .ok (.iload_n 2, 1) := by decide +kernel
theorem dX1_readFrom_10 : decode cX1_readFrom 10 = .ok (.iconst 1, 1) := by decide +kernel
theorem dX1_readFrom_11 : decode cX1_readFrom 11 = .ok (.iadd, 1) := by decide +kernel
theorem dX1_readFrom_12 : decode cX1_readFrom 12 = .ok (.iaload, 1) := by decide +kernel
theorem dX1_readFrom_13 : decode cX1_readFrom 13 = .ok (.putfield 64, 3) := by decide +kernel
theorem dX1_readFrom_16 : decode cX1_readFrom 16 = .ok (.aload_n 0, 1) := by decide +kernel
theorem dX1_readFrom_17 : decode cX1_readFrom 17 = .ok (.aload_n 1, 1) := by decide +kernel
theorem dX1_readFrom_18 : decode cX1_readFrom 18 = .ok (.iload_n 2, 1) := by decide +kernel
theorem dX1_readFrom_19 : decode cX1_readFrom 19 = .ok (.iconst 2, 1) := by decide +kernel
theorem dX1_readFrom_20 : decode cX1_readFrom 20 = .ok (.iadd, 1) := by decide +kernel
theorem dX1_readFrom_21 : decode cX1_readFrom 21 = .ok (.iaload, 1) := by decide +kernel
theorem dX1_readFrom_22 : decode cX1_readFrom 22 = .ok (.putfield 61, 3) := by decide +kernel
theorem dX1_readFrom_25 : decode cX1_readFrom 25 = .ok (.iload_n 2, 1) := by decide +kernel
theorem dX1_readFrom_26 : decode cX1_readFrom 26 = .ok (.iconst 3, 1) := by decide +kernel
theorem dX1_readFrom_27 : decode cX1_readFrom 27 = .ok (.iadd, 1) := by decide +kernel
theorem dX1_readFrom_28 : decode cX1_readFrom 28 = .ok (.istore_n 3, 1) := by decide +kernel
theorem dX1_readFrom_29 : decode cX1_readFrom 29 = .ok (.aload_n 1, 1) := by decide +kernel
theorem dX1_readFrom_30 : decode cX1_readFrom 30 = .ok (.iload_n 3, 1) := by decide +kernel
theorem dX1_readFrom_31 : decode cX1_readFrom 31 = .ok (.aload_n 0, 1) := by decide +kernel
theorem dX1_readFrom_32 : decode cX1_readFrom 32 = .ok (.getfield 15, 3) := by decide +kernel
theorem dX1_readFrom_35 : decode cX1_readFrom 35 = .ok (.iconst 0, 1) := by decide +kernel
theorem dX1_readFrom_36 : decode cX1_readFrom 36 = .ok (.iconst 4, 1) := by decide +kernel
theorem dX1_readFrom_37 : decode cX1_readFrom 37 = .ok (.invokestatic 70, 3) := by decide +kernel
theorem dX1_readFrom_40 : decode cX1_readFrom 40 = .ok (.aload_n 1, 1) := by decide +kernel
theorem dX1_readFrom_41 : decode cX1_readFrom 41 = .ok (.iload_n 3, 1) := by decide +kernel
theorem dX1_readFrom_42 : decode cX1_readFrom 42 = .ok (.iconst 4, 1) := by decide +kernel
theorem dX1_readFrom_43 : decode cX1_readFrom 43 = .ok (.iadd, 1) := by decide +kernel
theorem dX1_readFrom_44 : decode cX1_readFrom 44 = .ok (.aload_n 0, 1) := by decide +kernel
theorem dX1_readFrom_45 : decode cX1_readFrom 45 = .ok (.getfield 18, 3) := by decide +kernel
theorem dX1_readFrom_48 : decode cX1_readFrom 48 = .ok (.iconst 0, 1) := by decide +kernel
theorem dX1_readFrom_49 : decode cX1_readFrom 49 = .ok (.iconst 4, 1) := by decide +kernel
theorem dX1_readFrom_50 : decode cX1_readFrom 50 = .ok (.invokestatic 70, 3) := by decide +kernel
theorem dX1_readFrom_53 : decode cX1_readFrom 53 = .ok (.iinc 3 8, 3) := by decide +kernel
theorem dX1_readFrom_56 : decode cX1_readFrom 56 = .ok (.aload_n 1, 1) := by decide +kernel
theorem dX1_readFrom_57 : decode cX1_readFrom 57 = .ok (.iload_n 3, 1) := by decide +kernel
theorem dX1_readFrom_58 : decode cX1_readFrom 58 = .ok (.aload_n 0, 1) := by decide +kernel
theorem dX1_readFrom_59 : decode cX1_readFrom 59 = .ok (.getfield 42, 3) := by decide +kernel
theorem dX1_readFrom_62 : decode cX1_readFrom 62 = .ok (.iconst 0, 1) := by decide +kernel
theorem dX1_readFrom_63 : decode cX1_readFrom 63 = .ok (.bipush 24, 2) := by decide +kernel
theorem dX1_readFrom_65 : decode cX1_readFrom 65 = .ok (.invokestatic 70, 3) := by decide +kernel
theorem dX1_readFrom_68 : decode cX1_readFrom 68 = .ok (.aload_n 1, 1) := by decide +kernel
theorem dX1_readFrom_69 : decode cX1_readFrom 69 = .ok (.iload_n 3, 1) := by decide +kernel
theorem dX1_readFrom_70 : decode cX1_readFrom 70 = .ok (.bipush 24, 2) := by decide +kernel
theorem dX1_readFrom_72 : decode cX1_readFrom 72 = .ok (.iadd, 1) := by decide +kernel
theorem dX1_readFrom_73 : decode cX1_readFrom 73 = .ok (.aload_n 0, 1) := by decide +kernel
theorem dX1_readFrom_74 : decode cX1_readFrom 74 = .ok (.getfield 45, 3) := by decide +kernel
theorem dX1_readFrom_77 : decode cX1_readFrom 77 = .ok (.iconst 0, 1) := by decide +kernel
theorem dX1_readFrom_78 : decode cX1_readFrom 78 = .ok (.bipush 24, 2) := by decide +kernel
theorem dX1_readFrom_80 : decode cX1_readFrom 80 = .ok (.invokestatic 70, 3) := by decide +kernel
theorem dX1_readFrom_83 : decode cX1_readFrom 83 = .ok (.return_, 1) := by decide +kernel
theorem dX1_hasPhase_0 : decode cX1_hasPhase 0 = .ok (.iload_n 1, 1) := by decide +kernel
theorem dX1_hasPhase_1 : decode cX1_hasPhase 1 = .ok (.ifCond .lt 15, 3) := by decide +kernel
theorem dX1_hasPhase_4 : decode cX1_hasPhase 4 = .ok (.iload_n 1, 1) := by decide +kernel
theorem dX1_hasPhase_5 : decode cX1_hasPhase 5 = .ok (.aload_n 0, 1) := by decide +kernel
theorem dX1_hasPhase_6 : decode cX1_hasPhase 6 = .ok (.getfield 52, 3) := by decide +kernel
theorem dX1_hasPhase_9 : decode cX1_hasPhase 9 = .ok (.if_icmp .ge 7, 3) := by decide +kernel
theorem dX1_hasPhase_12 : decode cX1_hasPhase 12 = .ok (.iconst 1, 1) := by decide +kernel
theorem dX1_hasPhase_13 : decode cX1_hasPhase 13 = .ok (.goto 4, 3) := by decide +kernel
theorem dX1_hasPhase_16 : decode cX1_hasPhase 16 = .ok (.iconst 0, 1) := by decide +kernel
theorem dX1_hasPhase_17 : decode cX1_hasPhase 17 = .ok (.ireturn, 1) := by decide +kernel
theorem dX1_hasCell_0 : decode cX1_hasCell 0 = .ok (.iload_n 1, 1) := by decide +kernel
theorem dX1_hasCell_1 : decode cX1_hasCell 1 = .ok (.ifCond .lt 15, 3) := by decide +kernel
theorem dX1_hasCell_4 : decode cX1_hasCell 4 = .ok (.iload_n 1, 1) := by decide +kernel
theorem dX1_hasCell_5 : decode cX1_hasCell 5 = .ok (.aload_n 0, 1) := by decide +kernel
theorem dX1_hasCell_6 : decode cX1_hasCell 6 = .ok (.getfield 55, 3) := by decide +kernel
theorem dX1_hasCell_9 : decode cX1_hasCell 9 = .ok (.if_icmp .ge 7, 3) := by decide +kernel
theorem dX1_hasCell_12 : decode cX1_hasCell 12 = .ok (.iconst 1, 1) := by decide +kernel
theorem dX1_hasCell_13 : decode cX1_hasCell 13 = .ok (.goto 4, 3) := by decide +kernel
theorem dX1_hasCell_16 : decode cX1_hasCell 16 = .ok (.iconst 0, 1) := by decide +kernel
theorem dX1_hasCell_17 : decode cX1_hasCell 17 = .ok (.ireturn, 1) := by decide +kernel
theorem dX1_hasPath_0 : decode cX1_hasPath 0 = .ok (.iload_n 1, 1) := by decide +kernel
theorem dX1_hasPath_1 : decode cX1_hasPath 1 = .ok (.ifCond .lt 15, 3) := by decide +kernel
theorem dX1_hasPath_4 : decode cX1_hasPath 4 = .ok (.iload_n 1, 1) := by decide +kernel
theorem dX1_hasPath_5 : decode cX1_hasPath 5 = .ok (.aload_n 0, 1) := by decide +kernel
theorem dX1_hasPath_6 : decode cX1_hasPath 6 = .ok (.getfield 58, 3) := by decide +kernel
theorem dX1_hasPath_9 : decode cX1_hasPath 9 = .ok (.if_icmp .ge 7, 3) := by decide +kernel
theorem dX1_hasPath_12 : decode cX1_hasPath 12 = .ok (.iconst 1, 1) := by decide +kernel
theorem dX1_hasPath_13 : decode cX1_hasPath 13 = .ok (.goto 4, 3) := by decide +kernel
theorem dX1_hasPath_16 : decode cX1_hasPath 16 = .ok (.iconst 0, 1) := by decide +kernel
theorem dX1_hasPath_17 : decode cX1_hasPath 17 = .ok (.ireturn, 1) := by decide +kernel
theorem dX1_isFlop_0 : decode cX1_isFlop 0 = .ok (.aload_n 0, 1) := by decide +kernel
theorem dX1_isFlop_1 : decode cX1_isFlop 1 = .ok (.getfield 61, 3) := by decide +kernel
theorem dX1_isFlop_4 : decode cX1_isFlop 4 = .ok (.iload_n 1, 1) := by decide +kernel
theorem dX1_isFlop_5 : decode cX1_isFlop 5 = .ok (.ishr, 1) := by decide +kernel
theorem dX1_isFlop_6 : decode cX1_isFlop 6 = .ok (.iconst 1, 1) := by decide +kernel
theorem dX1_isFlop_7 : decode cX1_isFlop 7 = .ok (.iand, 1) := by decide +kernel
theorem dX1_isFlop_8 : decode cX1_isFlop 8 = .ok (.ifCond .eq 7, 3) := by decide +kernel
theorem dX1_isFlop_11 : decode cX1_isFlop 11 = .ok (.iconst 1, 1) := by decide +kernel
theorem dX1_isFlop_12 : decode cX1_isFlop 12 = .ok (.goto 4, 3) := by decide +kernel
theorem dX1_isFlop_15 : decode cX1_isFlop 15 = .ok (.iconst 0, 1) := by decide +kernel
theorem dX1_isFlop_16 : decode cX1_isFlop 16 = .ok (.ireturn, 1) := by decide +kernel
theorem dX1_latches_0 : decode cX1_latches 0 = .ok (.iconst 1, 1) := by decide +kernel
theorem dX1_latches_1 : decode cX1_latches 1 = .ok (.aload_n 0, 1) := by decide +kernel
theorem dX1_latches_2 : decode cX1_latches 2 = .ok (.getfield 55, 3) := by decide +kernel
theorem dX1_latches_5 : decode cX1_latches 5 = .ok (.ishl, 1) := by decide +kernel
theorem dX1_latches_6 : decode cX1_latches 6 = .ok (.iconst 1, 1) := by decide +kernel
theorem dX1_latches_7 : decode cX1_latches 7 = .ok (.isub, 1) := by decide +kernel
theorem dX1_latches_8 : decode cX1_latches 8 = .ok (.aload_n 0, 1) := by decide +kernel
theorem dX1_latches_9 : decode cX1_latches 9 = .ok (.getfield 61, 3) := by decide +kernel
theorem dX1_latches_12 : decode cX1_latches 12 = .ok (.iconst (-1), 1) := by decide +kernel
theorem dX1_latches_13 : decode cX1_latches 13 = .ok (.ixor, 1) := by decide +kernel
theorem dX1_latches_14 : decode cX1_latches 14 = .ok (.iand, 1) := by decide +kernel
theorem dX1_latches_15 : decode cX1_latches 15 = .ok (.ireturn, 1) := by decide +kernel
theorem dX1_pathBetween_0 : decode cX1_pathBetween 0 = .ok (.iconst 0, 1) := by decide +kernel
theorem dX1_pathBetween_1 : decode cX1_pathBetween 1 = .ok (.istore_n 3, 1) := by decide +kernel
theorem dX1_pathBetween_2 : decode cX1_pathBetween 2 = .ok (.iload_n 3, 1) := by decide +kernel
theorem dX1_pathBetween_3 : decode cX1_pathBetween 3 = .ok (.aload_n 0, 1) := by decide +kernel
theorem dX1_pathBetween_4 : decode cX1_pathBetween 4 = .ok (.getfield 58, 3) := by decide +kernel
theorem dX1_pathBetween_7 : decode cX1_pathBetween 7 = .ok (.if_icmp .ge 31, 3) := by decide +kernel
theorem dX1_pathBetween_10 : decode cX1_pathBetween 10 = .ok (.aload_n 0, 1) := by decide +kernel
theorem dX1_pathBetween_11 : decode cX1_pathBetween 11 = .ok (.getfield 36, 3) := by decide +kernel
theorem dX1_pathBetween_14 : decode cX1_pathBetween 14 = .ok (.iload_n 3, 1) := by decide +kernel
theorem dX1_pathBetween_15 : decode cX1_pathBetween 15 = .ok (.iaload, 1) := by decide +kernel
theorem dX1_pathBetween_16 : decode cX1_pathBetween 16 = .ok (.iload_n 1, 1) := by decide +kernel
theorem dX1_pathBetween_17 : decode cX1_pathBetween 17 = .ok (.if_icmp .ne 15, 3) := by decide +kernel
theorem dX1_pathBetween_20 : decode cX1_pathBetween 20 = .ok (.aload_n 0, 1) := by decide +kernel
theorem dX1_pathBetween_21 : decode cX1_pathBetween 21 = .ok (.getfield 39, 3) := by decide +kernel
theorem dX1_pathBetween_24 : decode cX1_pathBetween 24 = .ok (.iload_n 3, 1) := by decide +kernel
theorem dX1_pathBetween_25 : decode cX1_pathBetween 25 = .ok (.iaload, 1) := by decide +kernel
theorem dX1_pathBetween_26 : decode cX1_pathBetween 26 = .ok (.iload_n 2, 1) := by decide +kernel
theorem dX1_pathBetween_27 : decode cX1_pathBetween 27 = .ok (.if_icmp .ne 5, 3) := by decide +kernel
theorem dX1_pathBetween_30 : decode cX1_pathBetween 30 = .ok (.iload_n 3, 1) := by decide +kernel
theorem dX1_pathBetween_31 : decode cX1_pathBetween 31 = .ok (.ireturn, 1) := by decide +kernel
theorem dX1_pathBetween_32 : decode cX1_pathBetween 32 = .ok (.iinc 3 1, 3) := by decide +kernel
theorem dX1_pathBetween_35 : decode cX1_pathBetween 35 = .ok (.goto (-33), 3) := by decide +kernel
theorem dX1_pathBetween_38 : decode cX1_pathBetween 38 = .ok (.iconst (-1), 1) := by decide +kernel
theorem dX1_pathBetween_39 : decode cX1_pathBetween 39 = .ok (.ireturn, 1) := by decide +kernel
theorem dX1_shiftOf_0 : decode cX1_shiftOf 0 = .ok (.aload_n 0, 1) := by decide +kernel
theorem dX1_shiftOf_1 : decode cX1_shiftOf 1 = .ok (.getfield 15, 3) := by decide +kernel
theorem dX1_shiftOf_4 : decode cX1_shiftOf 4 = .ok (.aload_n 0, 1) := by decide +kernel
theorem dX1_shiftOf_5 : decode cX1_shiftOf 5 = .ok (.getfield 24, 3) := by decide +kernel
theorem dX1_shiftOf_8 : decode cX1_shiftOf 8 = .ok (.aload_n 0, 1) := by decide +kernel
theorem dX1_shiftOf_9 : decode cX1_shiftOf 9 = .ok (.getfield 39, 3) := by decide +kernel
theorem dX1_shiftOf_12 : decode cX1_shiftOf 12 = .ok (.iload_n 1, 1) := by decide +kernel
theorem dX1_shiftOf_13 : decode cX1_shiftOf 13 = .ok (.iaload, 1) := by decide +kernel
theorem dX1_shiftOf_14 : decode cX1_shiftOf 14 = .ok (.iaload, 1) := by decide +kernel
theorem dX1_shiftOf_15 : decode cX1_shiftOf 15 = .ok (.iaload, 1) := by decide +kernel
theorem dX1_shiftOf_16 : decode cX1_shiftOf 16 = .ok (.aload_n 0, 1) := by decide +kernel
theorem dX1_shiftOf_17 : decode cX1_shiftOf 17 = .ok (.getfield 15, 3) := by decide +kernel
theorem dX1_shiftOf_20 : decode cX1_shiftOf 20 = .ok (.aload_n 0, 1) := by decide +kernel
theorem dX1_shiftOf_21 : decode cX1_shiftOf 21 = .ok (.getfield 24, 3) := by decide +kernel
theorem dX1_shiftOf_24 : decode cX1_shiftOf 24 = .ok (.aload_n 0, 1) := by decide +kernel
theorem dX1_shiftOf_25 : decode cX1_shiftOf 25 = .ok (.getfield 36, 3) := by decide +kernel
theorem dX1_shiftOf_28 : decode cX1_shiftOf 28 = .ok (.iload_n 1, 1) := by decide +kernel
theorem dX1_shiftOf_29 : decode cX1_shiftOf 29 = .ok (.iaload, 1) := by decide +kernel
theorem dX1_shiftOf_30 : decode cX1_shiftOf 30 = .ok (.iaload, 1) := by decide +kernel
theorem dX1_shiftOf_31 : decode cX1_shiftOf 31 = .ok (.iaload, 1) := by decide +kernel
theorem dX1_shiftOf_32 : decode cX1_shiftOf 32 = .ok (.isub, 1) := by decide +kernel
theorem dX1_shiftOf_33 : decode cX1_shiftOf 33 = .ok (.istore_n 2, 1) := by decide +kernel
theorem dX1_shiftOf_34 : decode cX1_shiftOf 34 = .ok (.iload_n 2, 1) := by decide +kernel
theorem dX1_shiftOf_35 : decode cX1_shiftOf 35 = .ok (.iconst 1, 1) := by decide +kernel
theorem dX1_shiftOf_36 : decode cX1_shiftOf 36 = .ok (.isub, 1) := by decide +kernel
theorem dX1_shiftOf_37 : decode cX1_shiftOf 37 = .ok (.bipush 63, 2) := by decide +kernel
theorem dX1_shiftOf_39 : decode cX1_shiftOf 39 = .ok (.iand, 1) := by decide +kernel
theorem dX1_shiftOf_40 : decode cX1_shiftOf 40 = .ok (.iconst 1, 1) := by decide +kernel
theorem dX1_shiftOf_41 : decode cX1_shiftOf 41 = .ok (.iadd, 1) := by decide +kernel
theorem dX1_shiftOf_42 : decode cX1_shiftOf 42 = .ok (.ireturn, 1) := by decide +kernel
theorem dX1_delayOf_0 : decode cX1_delayOf 0 = .ok (.bipush 64, 2) := by decide +kernel
theorem dX1_delayOf_2 : decode cX1_delayOf 2 = .ok (.aload_n 0, 1) := by decide +kernel
theorem dX1_delayOf_3 : decode cX1_delayOf 3 = .ok (.getfield 33, 3) := by decide +kernel
theorem dX1_delayOf_6 : decode cX1_delayOf 6 = .ok (.aload_n 0, 1) := by decide +kernel
theorem dX1_delayOf_7 : decode cX1_delayOf 7 = .ok (.getfield 36, 3) := by decide +kernel
theorem dX1_delayOf_10 : decode cX1_delayOf 10 = .ok (.iload_n 1, 1) := by decide +kernel
theorem dX1_delayOf_11 : decode cX1_delayOf 11 = .ok (.iaload, 1) := by decide +kernel
theorem dX1_delayOf_12 : decode cX1_delayOf 12 = .ok (.iaload, 1) := by decide +kernel
theorem dX1_delayOf_13 : decode cX1_delayOf 13 = .ok (.aload_n 0, 1) := by decide +kernel
theorem dX1_delayOf_14 : decode cX1_delayOf 14 = .ok (.getfield 42, 3) := by decide +kernel
theorem dX1_delayOf_17 : decode cX1_delayOf 17 = .ok (.iload_n 1, 1) := by decide +kernel
theorem dX1_delayOf_18 : decode cX1_delayOf 18 = .ok (.iaload, 1) := by decide +kernel
theorem dX1_delayOf_19 : decode cX1_delayOf 19 = .ok (.iadd, 1) := by decide +kernel
theorem dX1_delayOf_20 : decode cX1_delayOf 20 = .ok (.aload_n 0, 1) := by decide +kernel
theorem dX1_delayOf_21 : decode cX1_delayOf 21 = .ok (.getfield 64, 3) := by decide +kernel
theorem dX1_delayOf_24 : decode cX1_delayOf 24 = .ok (.iadd, 1) := by decide +kernel
theorem dX1_delayOf_25 : decode cX1_delayOf 25 = .ok (.imul, 1) := by decide +kernel
theorem dX1_delayOf_26 : decode cX1_delayOf 26 = .ok (.ireturn, 1) := by decide +kernel
theorem dX1_weighPaths_0 : decode cX1_weighPaths 0 = .ok (.iconst 0, 1) := by decide +kernel
theorem dX1_weighPaths_1 : decode cX1_weighPaths 1 = .ok (.istore_n 2, 1) := by decide +kernel
theorem dX1_weighPaths_2 : decode cX1_weighPaths 2 = .ok (.iload_n 2, 1) := by decide +kernel
theorem dX1_weighPaths_3 : decode cX1_weighPaths 3 = .ok (.aload_n 0, 1) := by decide +kernel
theorem dX1_weighPaths_4 : decode cX1_weighPaths 4 = .ok (.getfield 58, 3) := by decide +kernel
theorem dX1_weighPaths_7 : decode cX1_weighPaths 7 = .ok (.if_icmp .ge 28, 3) := by decide +kernel
theorem dX1_weighPaths_10 : decode cX1_weighPaths 10 = .ok (.aload_n 1, 1) := by decide +kernel
theorem dX1_weighPaths_11 : decode cX1_weighPaths 11 = .ok (.iload_n 2, 1) := by decide +kernel
theorem dX1_weighPaths_12 : decode cX1_weighPaths 12 = .ok (.aload_n 0, 1) := by decide +kernel
theorem dX1_weighPaths_13 : decode cX1_weighPaths 13 = .ok (.iload_n 2, 1) := by decide +kernel
theorem dX1_weighPaths_14 : decode cX1_weighPaths 14 = .ok (.invokevirtual 76, 3) := by decide +kernel
theorem dX1_weighPaths_17 : decode cX1_weighPaths 17 = .ok (.aload_n 0, 1) := by decide +kernel
theorem dX1_weighPaths_18 : decode cX1_weighPaths 18 = .ok (.iload_n 2, 1) := by decide +kernel
theorem dX1_weighPaths_19 : decode cX1_weighPaths 19 = .ok (.invokevirtual 80, 3) := by decide +kernel
theorem dX1_weighPaths_22 : decode cX1_weighPaths 22 = .ok (.aload_n 0, 1) := by decide +kernel
theorem dX1_weighPaths_23 : decode cX1_weighPaths 23 = .ok (.getfield 48, 3) := by decide +kernel
theorem dX1_weighPaths_26 : decode cX1_weighPaths 26 = .ok (.imul, 1) := by decide +kernel
theorem dX1_weighPaths_27 : decode cX1_weighPaths 27 = .ok (.isub, 1) := by decide +kernel
theorem dX1_weighPaths_28 : decode cX1_weighPaths 28 = .ok (.iastore, 1) := by decide +kernel
theorem dX1_weighPaths_29 : decode cX1_weighPaths 29 = .ok (.iinc 2 1, 3) := by decide +kernel
theorem dX1_weighPaths_32 : decode cX1_weighPaths 32 = .ok (.goto (-30), 3) := by decide +kernel
theorem dX1_weighPaths_35 : decode cX1_weighPaths 35 = .ok (.return_, 1) := by decide +kernel
theorem dX1_gather_0 : decode cX1_gather 0 = .ok (.aload_n 3, 1) := by decide +kernel
theorem dX1_gather_1 : decode cX1_gather 1 = .ok (.ldc 83, 2) := by decide +kernel
theorem dX1_gather_3 : decode cX1_gather 3 = .ok (.invokestatic 84, 3) := by decide +kernel
theorem dX1_gather_6 : decode cX1_gather 6 = .ok (.iconst 0, 1) := by decide +kernel
theorem dX1_gather_7 : decode cX1_gather 7 = .ok (.istore 4, 2) := by decide +kernel
theorem dX1_gather_9 : decode cX1_gather 9 = .ok (.iload 4, 2) := by decide +kernel
theorem dX1_gather_11 : decode cX1_gather 11 = .ok (.aload_n 0, 1) := by decide +kernel
theorem dX1_gather_12 : decode cX1_gather 12 = .ok (.getfield 58, 3) := by decide +kernel
theorem dX1_gather_15 : decode cX1_gather 15 = .ok (.if_icmp .ge 44, 3) := by decide +kernel
theorem dX1_gather_18 : decode cX1_gather 18 = .ok (.aload_n 3, 1) := by decide +kernel
theorem dX1_gather_19 : decode cX1_gather 19 = .ok (.aload_n 0, 1) := by decide +kernel
theorem dX1_gather_20 : decode cX1_gather 20 = .ok (.getfield 39, 3) := by decide +kernel
theorem dX1_gather_23 : decode cX1_gather 23 = .ok (.iload 4, 2) := by decide +kernel
theorem dX1_gather_25 : decode cX1_gather 25 = .ok (.iaload, 1) := by decide +kernel
theorem dX1_gather_26 : decode cX1_gather 26 = .ok (.aload_n 3, 1) := by decide +kernel
theorem dX1_gather_27 : decode cX1_gather 27 = .ok (.aload_n 0, 1) := by decide +kernel
theorem dX1_gather_28 : decode cX1_gather 28 = .ok (.getfield 39, 3) := by decide +kernel
theorem dX1_gather_31 : decode cX1_gather 31 = .ok (.iload 4, 2) := by decide +kernel
theorem dX1_gather_33 : decode cX1_gather 33 = .ok (.iaload, 1) := by decide +kernel
theorem dX1_gather_34 : decode cX1_gather 34 = .ok (.iaload, 1) := by decide +kernel
theorem dX1_gather_35 : decode cX1_gather 35 = .ok (.aload_n 1, 1) := by decide +kernel
theorem dX1_gather_36 : decode cX1_gather 36 = .ok (.aload_n 0, 1) := by decide +kernel
theorem dX1_gather_37 : decode cX1_gather 37 = .ok (.getfield 36, 3) := by decide +kernel
theorem dX1_gather_40 : decode cX1_gather 40 = .ok (.iload 4, 2) := by decide +kernel
theorem dX1_gather_42 : decode cX1_gather 42 = .ok (.iaload, 1) := by decide +kernel
theorem dX1_gather_43 : decode cX1_gather 43 = .ok (.iaload, 1) := by decide +kernel
theorem dX1_gather_44 : decode cX1_gather 44 = .ok (.aload_n 2, 1) := by decide +kernel
theorem dX1_gather_45 : decode cX1_gather 45 = .ok (.iload 4, 2) := by decide +kernel
theorem dX1_gather_47 : decode cX1_gather 47 = .ok (.iaload, 1) := by decide +kernel
theorem dX1_gather_48 : decode cX1_gather 48 = .ok (.iadd, 1) := by decide +kernel
theorem dX1_gather_49 : decode cX1_gather 49 = .ok (.invokestatic 90, 3) := by decide +kernel
theorem dX1_gather_52 : decode cX1_gather 52 = .ok (.iastore, 1) := by decide +kernel
theorem dX1_gather_53 : decode cX1_gather 53 = .ok (.iinc 4 1, 3) := by decide +kernel
theorem dX1_gather_56 : decode cX1_gather 56 = .ok (.goto (-47), 3) := by decide +kernel
theorem dX1_gather_59 : decode cX1_gather 59 = .ok (.iconst 0, 1) := by decide +kernel
theorem dX1_gather_60 : decode cX1_gather 60 = .ok (.istore 4, 2) := by decide +kernel
theorem dX1_gather_62 : decode cX1_gather 62 = .ok (.iload 4, 2) := by decide +kernel
theorem dX1_gather_64 : decode cX1_gather 64 = .ok (.aload_n 0, 1) := by decide +kernel
theorem dX1_gather_65 : decode cX1_gather 65 = .ok (.getfield 55, 3) := by decide +kernel
theorem dX1_gather_68 : decode cX1_gather 68 = .ok (.if_icmp .ge 45, 3) := by decide +kernel
theorem dX1_gather_71 : decode cX1_gather 71 = .ok (.aload_n 3, 1) := by decide +kernel
theorem dX1_gather_72 : decode cX1_gather 72 = .ok (.iload 4, 2) := by decide +kernel
theorem dX1_gather_74 : decode cX1_gather 74 = .ok (.iaload, 1) := by decide +kernel
theorem dX1_gather_75 : decode cX1_gather 75 = .ok (.ldc 83, 2) := by decide +kernel
theorem dX1_gather_77 : decode cX1_gather 77 = .ok (.if_icmp .ne 30, 3) := by decide +kernel
theorem dX1_gather_80 : decode cX1_gather 80 = .ok (.aload_n 3, 1) := by decide +kernel
theorem dX1_gather_81 : decode cX1_gather 81 = .ok (.iload 4, 2) := by decide +kernel
theorem dX1_gather_83 : decode cX1_gather 83 = .ok (.aload_n 0, 1) := by decide +kernel
theorem dX1_gather_84 : decode cX1_gather 84 = .ok (.iload 4, 2) := by decide +kernel
theorem dX1_gather_86 : decode cX1_gather 86 = .ok (.invokevirtual 96, 3) := by decide +kernel
theorem dX1_gather_89 : decode cX1_gather 89 = .ok (.ifCond .eq 16, 3) := by decide +kernel
theorem dX1_gather_92 : decode cX1_gather 92 = .ok (.bipush (-64), 2) := by decide +kernel
theorem dX1_gather_94 : decode cX1_gather 94 = .ok (.aload_n 0, 1) := by decide +kernel
theorem dX1_gather_95 : decode cX1_gather 95 = .ok (.getfield 27, 3) := by decide +kernel
theorem dX1_gather_98 : decode cX1_gather 98 = .ok (.iload 4, 2) := by decide +kernel
theorem dX1_gather_100 : decode cX1_gather 100 = .ok (.iaload, 1) := by decide +kernel
theorem dX1_gather_101 : decode cX1_gather 101 = .ok (.imul, 1) := by decide +kernel
theorem dX1_gather_102 : decode cX1_gather 102 = .ok (.goto 4, 3) := by decide +kernel
theorem dX1_gather_105 : decode cX1_gather 105 = .ok (.iconst 0, 1) := by decide +kernel
theorem dX1_gather_106 : decode cX1_gather 106 = .ok (.iastore, 1) := by decide +kernel
theorem dX1_gather_107 : decode cX1_gather 107 = .ok (.iinc 4 1, 3) := by decide +kernel
theorem dX1_gather_110 : decode cX1_gather 110 = .ok (.goto (-48), 3) := by decide +kernel
theorem dX1_gather_113 : decode cX1_gather 113 = .ok (.return_, 1) := by decide +kernel
theorem dX1_leavesBy_0 : decode cX1_leavesBy 0 = .ok (.aload_n 0, 1) := by decide +kernel
theorem dX1_leavesBy_1 : decode cX1_leavesBy 1 = .ok (.iload_n 1, 1) := by decide +kernel
theorem dX1_leavesBy_2 : decode cX1_leavesBy 2 = .ok (.invokevirtual 96, 3) := by decide +kernel
theorem dX1_leavesBy_5 : decode cX1_leavesBy 5 = .ok (.ifCond .eq 7, 3) := by decide +kernel
theorem dX1_leavesBy_8 : decode cX1_leavesBy 8 = .ok (.iconst 0, 1) := by decide +kernel
theorem dX1_leavesBy_9 : decode cX1_leavesBy 9 = .ok (.goto 8, 3) := by decide +kernel
theorem dX1_leavesBy_12 : decode cX1_leavesBy 12 = .ok (.iload_n 2, 1) := by decide +kernel
theorem dX1_leavesBy_13 : decode cX1_leavesBy 13 = .ok (.iconst 0, 1) := by decide +kernel
theorem dX1_leavesBy_14 : decode cX1_leavesBy 14 = .ok (.invokestatic 90, 3) := by decide +kernel
theorem dX1_leavesBy_17 : decode cX1_leavesBy 17 = .ok (.ireturn, 1) := by decide +kernel
theorem dX1_limitOf_0 : decode cX1_limitOf 0 = .ok (.aload_n 0, 1) := by decide +kernel
theorem dX1_limitOf_1 : decode cX1_limitOf 1 = .ok (.iload_n 1, 1) := by decide +kernel
theorem dX1_limitOf_2 : decode cX1_limitOf 2 = .ok (.invokevirtual 96, 3) := by decide +kernel
theorem dX1_limitOf_5 : decode cX1_limitOf 5 = .ok (.ifCond .eq 7, 3) := by decide +kernel
theorem dX1_limitOf_8 : decode cX1_limitOf 8 = .ok (.iconst 0, 1) := by decide +kernel
theorem dX1_limitOf_9 : decode cX1_limitOf 9 = .ok (.goto 16, 3) := by decide +kernel
theorem dX1_limitOf_12 : decode cX1_limitOf 12 = .ok (.aload_n 0, 1) := by decide +kernel
theorem dX1_limitOf_13 : decode cX1_limitOf 13 = .ok (.getfield 18, 3) := by decide +kernel
theorem dX1_limitOf_16 : decode cX1_limitOf 16 = .ok (.aload_n 0, 1) := by decide +kernel
theorem dX1_limitOf_17 : decode cX1_limitOf 17 = .ok (.getfield 24, 3) := by decide +kernel
theorem dX1_limitOf_20 : decode cX1_limitOf 20 = .ok (.iload_n 1, 1) := by decide +kernel
theorem dX1_limitOf_21 : decode cX1_limitOf 21 = .ok (.iaload, 1) := by decide +kernel
theorem dX1_limitOf_22 : decode cX1_limitOf 22 = .ok (.iaload, 1) := by decide +kernel
theorem dX1_limitOf_23 : decode cX1_limitOf 23 = .ok (.iload_n 2, 1) := by decide +kernel
theorem dX1_limitOf_24 : decode cX1_limitOf 24 = .ok (.imul, 1) := by decide +kernel
theorem dX1_limitOf_25 : decode cX1_limitOf 25 = .ok (.istore_n 3, 1) := by decide +kernel
theorem dX1_limitOf_26 : decode cX1_limitOf 26 = .ok (.iload_n 3, 1) := by decide +kernel
theorem dX1_limitOf_27 : decode cX1_limitOf 27 = .ok (.bipush 64, 2) := by decide +kernel
theorem dX1_limitOf_29 : decode cX1_limitOf 29 = .ok (.aload_n 0, 1) := by decide +kernel
theorem dX1_limitOf_30 : decode cX1_limitOf 30 = .ok (.getfield 27, 3) := by decide +kernel
theorem dX1_limitOf_33 : decode cX1_limitOf 33 = .ok (.iload_n 1, 1) := by decide +kernel
theorem dX1_limitOf_34 : decode cX1_limitOf 34 = .ok (.iaload, 1) := by decide +kernel
theorem dX1_limitOf_35 : decode cX1_limitOf 35 = .ok (.imul, 1) := by decide +kernel
theorem dX1_limitOf_36 : decode cX1_limitOf 36 = .ok (.isub, 1) := by decide +kernel
theorem dX1_limitOf_37 : decode cX1_limitOf 37 = .ok (.ireturn, 1) := by decide +kernel
theorem dX1_roomBy_0 : decode cX1_roomBy 0 = .ok (.aload_n 0, 1) := by decide +kernel
theorem dX1_roomBy_1 : decode cX1_roomBy 1 = .ok (.iload_n 1, 1) := by decide +kernel
theorem dX1_roomBy_2 : decode cX1_roomBy 2 = .ok (.aload_n 0, 1) := by decide +kernel
theorem dX1_roomBy_3 : decode cX1_roomBy 3 = .ok (.getfield 48, 3) := by decide +kernel
theorem dX1_roomBy_6 : decode cX1_roomBy 6 = .ok (.invokevirtual 100, 3) := by decide +kernel
theorem dX1_roomBy_9 : decode cX1_roomBy 9 = .ok (.aload_n 0, 1) := by decide +kernel
theorem dX1_roomBy_10 : decode cX1_roomBy 10 = .ok (.iload_n 1, 1) := by decide +kernel
theorem dX1_roomBy_11 : decode cX1_roomBy 11 = .ok (.invokevirtual 96, 3) := by decide +kernel
theorem dX1_roomBy_14 : decode cX1_roomBy 14 = .ok (.ifCond .eq 7, 3) := by decide +kernel
theorem dX1_roomBy_17 : decode cX1_roomBy 17 = .ok (.iload_n 2, 1) := by decide +kernel
theorem dX1_roomBy_18 : decode cX1_roomBy 18 = .ok (.goto 8, 3) := by decide +kernel
theorem dX1_roomBy_21 : decode cX1_roomBy 21 = .ok (.iload_n 2, 1) := by decide +kernel
theorem dX1_roomBy_22 : decode cX1_roomBy 22 = .ok (.iconst 0, 1) := by decide +kernel
theorem dX1_roomBy_23 : decode cX1_roomBy 23 = .ok (.invokestatic 90, 3) := by decide +kernel
theorem dX1_roomBy_26 : decode cX1_roomBy 26 = .ok (.isub, 1) := by decide +kernel
theorem dX1_roomBy_27 : decode cX1_roomBy 27 = .ok (.ireturn, 1) := by decide +kernel
theorem dX1_gapOf_0 : decode cX1_gapOf 0 = .ok (.aload_n 0, 1) := by decide +kernel
theorem dX1_gapOf_1 : decode cX1_gapOf 1 = .ok (.getfield 39, 3) := by decide +kernel
theorem dX1_gapOf_4 : decode cX1_gapOf 4 = .ok (.iload_n 1, 1) := by decide +kernel
theorem dX1_gapOf_5 : decode cX1_gapOf 5 = .ok (.iaload, 1) := by decide +kernel
theorem dX1_gapOf_6 : decode cX1_gapOf 6 = .ok (.istore_n 2, 1) := by decide +kernel
theorem dX1_gapOf_7 : decode cX1_gapOf 7 = .ok (.bipush 64, 2) := by decide +kernel
theorem dX1_gapOf_9 : decode cX1_gapOf 9 = .ok (.aload_n 0, 1) := by decide +kernel
theorem dX1_gapOf_10 : decode cX1_gapOf 10 = .ok (.getfield 33, 3) := by decide +kernel
theorem dX1_gapOf_13 : decode cX1_gapOf 13 = .ok (.aload_n 0, 1) := by decide +kernel
theorem dX1_gapOf_14 : decode cX1_gapOf 14 = .ok (.getfield 36, 3) := by decide +kernel
theorem dX1_gapOf_17 : decode cX1_gapOf 17 = .ok (.iload_n 1, 1) := by decide +kernel
theorem dX1_gapOf_18 : decode cX1_gapOf 18 = .ok (.iaload, 1) := by decide +kernel
theorem dX1_gapOf_19 : decode cX1_gapOf 19 = .ok (.iaload, 1) := by decide +kernel
theorem dX1_gapOf_20 : decode cX1_gapOf 20 = .ok (.aload_n 0, 1) := by decide +kernel
theorem dX1_gapOf_21 : decode cX1_gapOf 21 = .ok (.getfield 45, 3) := by decide +kernel
theorem dX1_gapOf_24 : decode cX1_gapOf 24 = .ok (.iload_n 1, 1) := by decide +kernel
theorem dX1_gapOf_25 : decode cX1_gapOf 25 = .ok (.iaload, 1) := by decide +kernel
theorem dX1_gapOf_26 : decode cX1_gapOf 26 = .ok (.iadd, 1) := by decide +kernel
theorem dX1_gapOf_27 : decode cX1_gapOf 27 = .ok (.aload_n 0, 1) := by decide +kernel
theorem dX1_gapOf_28 : decode cX1_gapOf 28 = .ok (.getfield 64, 3) := by decide +kernel
theorem dX1_gapOf_31 : decode cX1_gapOf 31 = .ok (.isub, 1) := by decide +kernel
theorem dX1_gapOf_32 : decode cX1_gapOf 32 = .ok (.imul, 1) := by decide +kernel
theorem dX1_gapOf_33 : decode cX1_gapOf 33 = .ok (.aload_n 0, 1) := by decide +kernel
theorem dX1_gapOf_34 : decode cX1_gapOf 34 = .ok (.iload_n 1, 1) := by decide +kernel
theorem dX1_gapOf_35 : decode cX1_gapOf 35 = .ok (.invokevirtual 80, 3) := by decide +kernel
theorem dX1_gapOf_38 : decode cX1_gapOf 38 = .ok (.aload_n 0, 1) := by decide +kernel
theorem dX1_gapOf_39 : decode cX1_gapOf 39 = .ok (.getfield 48, 3) := by decide +kernel
theorem dX1_gapOf_42 : decode cX1_gapOf 42 = .ok (.imul, 1) := by decide +kernel
theorem dX1_gapOf_43 : decode cX1_gapOf 43 = .ok (.isub, 1) := by decide +kernel
theorem dX1_gapOf_44 : decode cX1_gapOf 44 = .ok (.istore_n 3, 1) := by decide +kernel
theorem dX1_gapOf_45 : decode cX1_gapOf 45 = .ok (.aload_n 0, 1) := by decide +kernel
theorem dX1_gapOf_46 : decode cX1_gapOf 46 = .ok (.iload_n 2, 1) := by decide +kernel
theorem dX1_gapOf_47 : decode cX1_gapOf 47 = .ok (.invokevirtual 96, 3) := by decide +kernel
theorem dX1_gapOf_50 : decode cX1_gapOf 50 = .ok (.ifCond .eq 7, 3) := by decide +kernel
theorem dX1_gapOf_53 : decode cX1_gapOf 53 = .ok (.iconst 0, 1) := by decide +kernel
theorem dX1_gapOf_54 : decode cX1_gapOf 54 = .ok (.goto 19, 3) := by decide +kernel
theorem dX1_gapOf_57 : decode cX1_gapOf 57 = .ok (.aload_n 0, 1) := by decide +kernel
theorem dX1_gapOf_58 : decode cX1_gapOf 58 = .ok (.getfield 18, 3) := by decide +kernel
theorem dX1_gapOf_61 : decode cX1_gapOf 61 = .ok (.aload_n 0, 1) := by decide +kernel
theorem dX1_gapOf_62 : decode cX1_gapOf 62 = .ok (.getfield 24, 3) := by decide +kernel
theorem dX1_gapOf_65 : decode cX1_gapOf 65 = .ok (.iload_n 2, 1) := by decide +kernel
theorem dX1_gapOf_66 : decode cX1_gapOf 66 = .ok (.iaload, 1) := by decide +kernel
theorem dX1_gapOf_67 : decode cX1_gapOf 67 = .ok (.iaload, 1) := by decide +kernel
theorem dX1_gapOf_68 : decode cX1_gapOf 68 = .ok (.aload_n 0, 1) := by decide +kernel
theorem dX1_gapOf_69 : decode cX1_gapOf 69 = .ok (.getfield 48, 3) := by decide +kernel
theorem dX1_gapOf_72 : decode cX1_gapOf 72 = .ok (.imul, 1) := by decide +kernel
theorem dX1_gapOf_73 : decode cX1_gapOf 73 = .ok (.istore 4, 2) := by decide +kernel
theorem dX1_gapOf_75 : decode cX1_gapOf 75 = .ok (.iload_n 3, 1) := by decide +kernel
theorem dX1_gapOf_76 : decode cX1_gapOf 76 = .ok (.bipush 64, 2) := by decide +kernel
theorem dX1_gapOf_78 : decode cX1_gapOf 78 = .ok (.aload_n 0, 1) := by decide +kernel
theorem dX1_gapOf_79 : decode cX1_gapOf 79 = .ok (.getfield 48, 3) := by decide +kernel
theorem dX1_gapOf_82 : decode cX1_gapOf 82 = .ok (.imul, 1) := by decide +kernel
theorem dX1_gapOf_83 : decode cX1_gapOf 83 = .ok (.iadd, 1) := by decide +kernel
theorem dX1_gapOf_84 : decode cX1_gapOf 84 = .ok (.iload 4, 2) := by decide +kernel
theorem dX1_gapOf_86 : decode cX1_gapOf 86 = .ok (.isub, 1) := by decide +kernel
theorem dX1_gapOf_87 : decode cX1_gapOf 87 = .ok (.bipush 64, 2) := by decide +kernel
theorem dX1_gapOf_89 : decode cX1_gapOf 89 = .ok (.aload_n 0, 1) := by decide +kernel
theorem dX1_gapOf_90 : decode cX1_gapOf 90 = .ok (.getfield 30, 3) := by decide +kernel
theorem dX1_gapOf_93 : decode cX1_gapOf 93 = .ok (.iload_n 2, 1) := by decide +kernel
theorem dX1_gapOf_94 : decode cX1_gapOf 94 = .ok (.iaload, 1) := by decide +kernel
theorem dX1_gapOf_95 : decode cX1_gapOf 95 = .ok (.imul, 1) := by decide +kernel
theorem dX1_gapOf_96 : decode cX1_gapOf 96 = .ok (.isub, 1) := by decide +kernel
theorem dX1_gapOf_97 : decode cX1_gapOf 97 = .ok (.ireturn, 1) := by decide +kernel
theorem dX1_padOf_0 : decode cX1_padOf 0 = .ok (.aload_n 0, 1) := by decide +kernel
theorem dX1_padOf_1 : decode cX1_padOf 1 = .ok (.iload_n 1, 1) := by decide +kernel
theorem dX1_padOf_2 : decode cX1_padOf 2 = .ok (.invokevirtual 103, 3) := by decide +kernel
theorem dX1_padOf_5 : decode cX1_padOf 5 = .ok (.ineg, 1) := by decide +kernel
theorem dX1_padOf_6 : decode cX1_padOf 6 = .ok (.bipush 64, 2) := by decide +kernel
theorem dX1_padOf_8 : decode cX1_padOf 8 = .ok (.invokestatic 106, 3) := by decide +kernel
theorem dX1_padOf_11 : decode cX1_padOf 11 = .ok (.iconst 0, 1) := by decide +kernel
theorem dX1_padOf_12 : decode cX1_padOf 12 = .ok (.invokestatic 90, 3) := by decide +kernel
theorem dX1_padOf_15 : decode cX1_padOf 15 = .ok (.ireturn, 1) := by decide +kernel
theorem dX1_leastMove_0 : decode cX1_leastMove 0 = .ok (.sipush (-999), 3) := by decide +kernel
theorem dX1_leastMove_3 : decode cX1_leastMove 3 = .ok (.istore_n 2, 1) := by decide +kernel
theorem dX1_leastMove_4 : decode cX1_leastMove 4 = .ok (.iconst 0, 1) := by decide +kernel
theorem dX1_leastMove_5 : decode cX1_leastMove 5 = .ok (.istore_n 3, 1) := by decide +kernel
theorem dX1_leastMove_6 : decode cX1_leastMove 6 = .ok (.iload_n 3, 1) := by decide +kernel
theorem dX1_leastMove_7 : decode cX1_leastMove 7 = .ok (.aload_n 0, 1) := by decide +kernel
theorem dX1_leastMove_8 : decode cX1_leastMove 8 = .ok (.getfield 58, 3) := by decide +kernel
theorem dX1_leastMove_11 : decode cX1_leastMove 11 = .ok (.if_icmp .ge 89, 3) := by decide +kernel
theorem dX1_leastMove_14 : decode cX1_leastMove 14 = .ok (.aload_n 0, 1) := by decide +kernel
theorem dX1_leastMove_15 : decode cX1_leastMove 15 = .ok (.getfield 36, 3) := by decide +kernel
theorem dX1_leastMove_18 : decode cX1_leastMove 18 = .ok (.iload_n 3, 1) := by decide +kernel
theorem dX1_leastMove_19 : decode cX1_leastMove 19 = .ok (.iaload, 1) := by decide +kernel
theorem dX1_leastMove_20 : decode cX1_leastMove 20 = .ok (.aload_n 0, 1) := by decide +kernel
theorem dX1_leastMove_21 : decode cX1_leastMove 21 = .ok (.getfield 39, 3) := by decide +kernel
theorem dX1_leastMove_24 : decode cX1_leastMove 24 = .ok (.iload_n 3, 1) := by decide +kernel
theorem dX1_leastMove_25 : decode cX1_leastMove 25 = .ok (.iaload, 1) := by decide +kernel
theorem dX1_leastMove_26 : decode cX1_leastMove 26 = .ok (.if_icmp .eq 28, 3) := by decide +kernel
theorem dX1_leastMove_29 : decode cX1_leastMove 29 = .ok (.aload_n 0, 1) := by decide +kernel
theorem dX1_leastMove_30 : decode cX1_leastMove 30 = .ok (.getfield 39, 3) := by decide +kernel
theorem dX1_leastMove_33 : decode cX1_leastMove 33 = .ok (.iload_n 3, 1) := by decide +kernel
theorem dX1_leastMove_34 : decode cX1_leastMove 34 = .ok (.iaload, 1) := by decide +kernel
theorem dX1_leastMove_35 : decode cX1_leastMove 35 = .ok (.iload_n 1, 1) := by decide +kernel
theorem dX1_leastMove_36 : decode cX1_leastMove 36 = .ok (.if_icmp .ne 18, 3) := by decide +kernel
theorem dX1_leastMove_39 : decode cX1_leastMove 39 = .ok (.iload_n 2, 1) := by decide +kernel
theorem dX1_leastMove_40 : decode cX1_leastMove 40 = .ok (.aload_n 0, 1) := by decide +kernel
theorem dX1_leastMove_41 : decode cX1_leastMove 41 = .ok (.getfield 45, 3) := by decide +kernel
theorem dX1_leastMove_44 : decode cX1_leastMove 44 = .ok (.iload_n 3, 1) := by decide +kernel
theorem dX1_leastMove_45 : decode cX1_leastMove 45 = .ok (.iaload, 1) := by decide +kernel
theorem dX1_leastMove_46 : decode cX1_leastMove 46 = .ok (.ineg, 1) := by decide +kernel
theorem dX1_leastMove_47 : decode cX1_leastMove 47 = .ok (.invokestatic 90, 3) := by decide +kernel
theorem dX1_leastMove_50 : decode cX1_leastMove 50 = .ok (.istore_n 2, 1) := by decide +kernel
theorem dX1_leastMove_51 : decode cX1_leastMove 51 = .ok (.goto 43, 3) := by decide +kernel
theorem dX1_leastMove_54 : decode cX1_leastMove 54 = .ok (.aload_n 0, 1) := by decide +kernel
theorem dX1_leastMove_55 : decode cX1_leastMove 55 = .ok (.getfield 36, 3) := by decide +kernel
theorem dX1_leastMove_58 : decode cX1_leastMove 58 = .ok (.iload_n 3, 1) := by decide +kernel
theorem dX1_leastMove_59 : decode cX1_leastMove 59 = .ok (.iaload, 1) := by decide +kernel
theorem dX1_leastMove_60 : decode cX1_leastMove 60 = .ok (.aload_n 0, 1) := by decide +kernel
theorem dX1_leastMove_61 : decode cX1_leastMove 61 = .ok (.getfield 39, 3) := by decide +kernel
theorem dX1_leastMove_64 : decode cX1_leastMove 64 = .ok (.iload_n 3, 1) := by decide +kernel
theorem dX1_leastMove_65 : decode cX1_leastMove 65 = .ok (.iaload, 1) := by decide +kernel
theorem dX1_leastMove_66 : decode cX1_leastMove 66 = .ok (.if_icmp .eq 28, 3) := by decide +kernel
theorem dX1_leastMove_69 : decode cX1_leastMove 69 = .ok (.aload_n 0, 1) := by decide +kernel
theorem dX1_leastMove_70 : decode cX1_leastMove 70 = .ok (.getfield 36, 3) := by decide +kernel
theorem dX1_leastMove_73 : decode cX1_leastMove 73 = .ok (.iload_n 3, 1) := by decide +kernel
theorem dX1_leastMove_74 : decode cX1_leastMove 74 = .ok (.iaload, 1) := by decide +kernel
theorem dX1_leastMove_75 : decode cX1_leastMove 75 = .ok (.iload_n 1, 1) := by decide +kernel
theorem dX1_leastMove_76 : decode cX1_leastMove 76 = .ok (.if_icmp .ne 18, 3) := by decide +kernel
theorem dX1_leastMove_79 : decode cX1_leastMove 79 = .ok (.iload_n 2, 1) := by decide +kernel
theorem dX1_leastMove_80 : decode cX1_leastMove 80 = .ok (.aload_n 0, 1) := by decide +kernel
theorem dX1_leastMove_81 : decode cX1_leastMove 81 = .ok (.getfield 42, 3) := by decide +kernel
theorem dX1_leastMove_84 : decode cX1_leastMove 84 = .ok (.iload_n 3, 1) := by decide +kernel
theorem dX1_leastMove_85 : decode cX1_leastMove 85 = .ok (.iaload, 1) := by decide +kernel
theorem dX1_leastMove_86 : decode cX1_leastMove 86 = .ok (.sipush 999, 3) := by decide +kernel
theorem dX1_leastMove_89 : decode cX1_leastMove 89 = .ok (.isub, 1) := by decide +kernel
theorem dX1_leastMove_90 : decode cX1_leastMove 90 = .ok (.invokestatic 90, 3) := by decide +kernel
theorem dX1_leastMove_93 : decode cX1_leastMove 93 = .ok (.istore_n 2, 1) := by decide +kernel
theorem dX1_leastMove_94 : decode cX1_leastMove 94 = .ok (.iinc 3 1, 3) := by decide +kernel
theorem dX1_leastMove_97 : decode cX1_leastMove 97 = .ok (.goto (-91), 3) := by decide +kernel
theorem dX1_leastMove_100 : decode cX1_leastMove 100 = .ok (.iload_n 2, 1) := by decide +kernel
theorem dX1_leastMove_101 : decode cX1_leastMove 101 = .ok (.ireturn, 1) := by decide +kernel
theorem dX1_greatestMove_0 : decode cX1_greatestMove 0 = .ok (.sipush 999, 3) := by decide +kernel
theorem dX1_greatestMove_3 : decode cX1_greatestMove 3 = .ok (.istore_n 2, 1) := by decide +kernel
theorem dX1_greatestMove_4 : decode cX1_greatestMove 4 = .ok (.iconst 0, 1) := by decide +kernel
theorem dX1_greatestMove_5 : decode cX1_greatestMove 5 = .ok (.istore_n 3, 1) := by decide +kernel
theorem dX1_greatestMove_6 : decode cX1_greatestMove 6 = .ok (.iload_n 3, 1) := by decide +kernel
theorem dX1_greatestMove_7 : decode cX1_greatestMove 7 = .ok (.aload_n 0, 1) := by decide +kernel
theorem dX1_greatestMove_8 : decode cX1_greatestMove 8 = .ok (.getfield 58, 3) := by decide +kernel
theorem dX1_greatestMove_11 : decode cX1_greatestMove 11 = .ok (.if_icmp .ge 88, 3) := by decide +kernel
theorem dX1_greatestMove_14 : decode cX1_greatestMove 14 = .ok (.aload_n 0, 1) := by decide +kernel
theorem dX1_greatestMove_15 : decode cX1_greatestMove 15 = .ok (.getfield 36, 3) := by decide +kernel
theorem dX1_greatestMove_18 : decode cX1_greatestMove 18 = .ok (.iload_n 3, 1) := by decide +kernel
theorem dX1_greatestMove_19 : decode cX1_greatestMove 19 = .ok (.iaload, 1) := by decide +kernel
theorem dX1_greatestMove_20 : decode cX1_greatestMove 20 = .ok (.aload_n 0, 1) := by decide +kernel
theorem dX1_greatestMove_21 : decode cX1_greatestMove 21 = .ok (.getfield 39, 3) := by decide +kernel
theorem dX1_greatestMove_24 : decode cX1_greatestMove 24 = .ok (.iload_n 3, 1) := by decide +kernel
theorem dX1_greatestMove_25 : decode cX1_greatestMove 25 = .ok (.iaload, 1) := by decide +kernel
theorem dX1_greatestMove_26 : decode cX1_greatestMove 26 = .ok (.if_icmp .eq 31, 3) := by decide +kernel
theorem dX1_greatestMove_29 : decode cX1_greatestMove 29 = .ok (.aload_n 0, 1) := by decide +kernel
theorem dX1_greatestMove_30 : decode cX1_greatestMove 30 = .ok (.getfield 39, 3) := by decide +kernel
theorem dX1_greatestMove_33 : decode cX1_greatestMove 33 = .ok (.iload_n 3, 1) := by decide +kernel
theorem dX1_greatestMove_34 : decode cX1_greatestMove 34 = .ok (.iaload, 1) := by decide +kernel
theorem dX1_greatestMove_35 : decode cX1_greatestMove 35 = .ok (.iload_n 1, 1) := by decide +kernel
theorem dX1_greatestMove_36 : decode cX1_greatestMove 36 = .ok (.if_icmp .ne 21, 3) := by decide +kernel
theorem dX1_greatestMove_39 : decode cX1_greatestMove 39 = .ok (.iload_n 2, 1) := by decide +kernel
theorem dX1_greatestMove_40 : decode cX1_greatestMove 40 = .ok (.sipush 999, 3) := by decide +kernel
theorem dX1_greatestMove_43 : decode cX1_greatestMove 43 = .ok (.aload_n 0, 1) := by decide +kernel
theorem dX1_greatestMove_44 : decode cX1_greatestMove 44 = .ok (.getfield 42, 3) := by decide +kernel
theorem dX1_greatestMove_47 : decode cX1_greatestMove 47 = .ok (.iload_n 3, 1) := by decide +kernel
theorem dX1_greatestMove_48 : decode cX1_greatestMove 48 = .ok (.iaload, 1) := by decide +kernel
theorem dX1_greatestMove_49 : decode cX1_greatestMove 49 = .ok (.isub, 1) := by decide +kernel
theorem dX1_greatestMove_50 : decode cX1_greatestMove 50 = .ok (.invokestatic 109, 3) := by decide +kernel
theorem dX1_greatestMove_53 : decode cX1_greatestMove 53 = .ok (.istore_n 2, 1) := by decide +kernel
theorem dX1_greatestMove_54 : decode cX1_greatestMove 54 = .ok (.goto 39, 3) := by decide +kernel
theorem dX1_greatestMove_57 : decode cX1_greatestMove 57 = .ok (.aload_n 0, 1) := by decide +kernel
theorem dX1_greatestMove_58 : decode cX1_greatestMove 58 = .ok (.getfield 36, 3) := by decide +kernel
theorem dX1_greatestMove_61 : decode cX1_greatestMove 61 = .ok (.iload_n 3, 1) := by decide +kernel
theorem dX1_greatestMove_62 : decode cX1_greatestMove 62 = .ok (.iaload, 1) := by decide +kernel
theorem dX1_greatestMove_63 : decode cX1_greatestMove 63 = .ok (.aload_n 0, 1) := by decide +kernel
theorem dX1_greatestMove_64 : decode cX1_greatestMove 64 = .ok (.getfield 39, 3) := by decide +kernel
theorem dX1_greatestMove_67 : decode cX1_greatestMove 67 = .ok (.iload_n 3, 1) := by decide +kernel
theorem dX1_greatestMove_68 : decode cX1_greatestMove 68 = .ok (.iaload, 1) := by decide +kernel
theorem dX1_greatestMove_69 : decode cX1_greatestMove 69 = .ok (.if_icmp .eq 24, 3) := by decide +kernel
theorem dX1_greatestMove_72 : decode cX1_greatestMove 72 = .ok (.aload_n 0, 1) := by decide +kernel
theorem dX1_greatestMove_73 : decode cX1_greatestMove 73 = .ok (.getfield 36, 3) := by decide +kernel
theorem dX1_greatestMove_76 : decode cX1_greatestMove 76 = .ok (.iload_n 3, 1) := by decide +kernel
theorem dX1_greatestMove_77 : decode cX1_greatestMove 77 = .ok (.iaload, 1) := by decide +kernel
theorem dX1_greatestMove_78 : decode cX1_greatestMove 78 = .ok (.iload_n 1, 1) := by decide +kernel
theorem dX1_greatestMove_79 : decode cX1_greatestMove 79 = .ok (.if_icmp .ne 14, 3) := by decide +kernel
theorem dX1_greatestMove_82 : decode cX1_greatestMove 82 = .ok (.iload_n 2, 1) := by decide +kernel
theorem dX1_greatestMove_83 : decode cX1_greatestMove 83 = .ok (.aload_n 0, 1) := by decide +kernel
theorem dX1_greatestMove_84 : decode cX1_greatestMove 84 = .ok (.getfield 45, 3) := by decide +kernel
theorem dX1_greatestMove_87 : decode cX1_greatestMove 87 = .ok (.iload_n 3, 1) := by decide +kernel
theorem dX1_greatestMove_88 : decode cX1_greatestMove 88 = .ok (.iaload, 1) := by decide +kernel
theorem dX1_greatestMove_89 : decode cX1_greatestMove 89 = .ok (.invokestatic 109, 3) := by decide +kernel
theorem dX1_greatestMove_92 : decode cX1_greatestMove 92 = .ok (.istore_n 2, 1) := by decide +kernel
theorem dX1_greatestMove_93 : decode cX1_greatestMove 93 = .ok (.iinc 3 1, 3) := by decide +kernel
theorem dX1_greatestMove_96 : decode cX1_greatestMove 96 = .ok (.goto (-90), 3) := by decide +kernel
theorem dX1_greatestMove_99 : decode cX1_greatestMove 99 = .ok (.iload_n 2, 1) := by decide +kernel
theorem dX1_greatestMove_100 : decode cX1_greatestMove 100 = .ok (.ireturn, 1) := by decide +kernel
theorem dX1_moveWork_0 : decode cX1_moveWork 0 = .ok (.iconst 0, 1) := by decide +kernel
theorem dX1_moveWork_1 : decode cX1_moveWork 1 = .ok (.istore_n 3, 1) := by decide +kernel
theorem dX1_moveWork_2 : decode cX1_moveWork 2 = .ok (.iload_n 3, 1) := by decide +kernel
theorem dX1_moveWork_3 : decode cX1_moveWork 3 = .ok (.aload_n 0, 1) := by decide +kernel
theorem dX1_moveWork_4 : decode cX1_moveWork 4 = .ok (.getfield 58, 3) := by decide +kernel
theorem dX1_moveWork_7 : decode cX1_moveWork 7 = .ok (.if_icmp .ge 64, 3) := by decide +kernel
theorem dX1_moveWork_10 : decode cX1_moveWork 10 = .ok (.aload_n 0, 1) := by decide +kernel
theorem dX1_moveWork_11 : decode cX1_moveWork 11 = .ok (.getfield 39, 3) := by decide +kernel
theorem dX1_moveWork_14 : decode cX1_moveWork 14 = .ok (.iload_n 3, 1) := by decide +kernel
theorem dX1_moveWork_15 : decode cX1_moveWork 15 = .ok (.iaload, 1) := by decide +kernel
theorem dX1_moveWork_16 : decode cX1_moveWork 16 = .ok (.iload_n 1, 1) := by decide +kernel
theorem dX1_moveWork_17 : decode cX1_moveWork 17 = .ok (.if_icmp .ne 7, 3) := by decide +kernel
theorem dX1_moveWork_20 : decode cX1_moveWork 20 = .ok (.iload_n 2, 1) := by decide +kernel
theorem dX1_moveWork_21 : decode cX1_moveWork 21 = .ok (.goto 4, 3) := by decide +kernel
theorem dX1_moveWork_24 : decode cX1_moveWork 24 = .ok (.iconst 0, 1) := by decide +kernel
theorem dX1_moveWork_25 : decode cX1_moveWork 25 = .ok (.aload_n 0, 1) := by decide +kernel
theorem dX1_moveWork_26 : decode cX1_moveWork 26 = .ok (.getfield 36, 3) := by decide +kernel
theorem dX1_moveWork_29 : decode cX1_moveWork 29 = .ok (.iload_n 3, 1) := by decide +kernel
theorem dX1_moveWork_30 : decode cX1_moveWork 30 = .ok (.iaload, 1) := by decide +kernel
theorem dX1_moveWork_31 : decode cX1_moveWork 31 = .ok (.iload_n 1, 1) := by decide +kernel
theorem dX1_moveWork_32 : decode cX1_moveWork 32 = .ok (.if_icmp .ne 7, 3) := by decide +kernel
theorem dX1_moveWork_35 : decode cX1_moveWork 35 = .ok (.iload_n 2, 1) := by decide +kernel
theorem dX1_moveWork_36 : decode cX1_moveWork 36 = .ok (.goto 4, 3) := by decide +kernel
theorem dX1_moveWork_39 : decode cX1_moveWork 39 = .ok (.iconst 0, 1) := by decide +kernel
theorem dX1_moveWork_40 : decode cX1_moveWork 40 = .ok (.isub, 1) := by decide +kernel
theorem dX1_moveWork_41 : decode cX1_moveWork 41 = .ok (.istore 4, 2) := by decide +kernel
theorem dX1_moveWork_43 : decode cX1_moveWork 43 = .ok (.aload_n 0, 1) := by decide +kernel
theorem dX1_moveWork_44 : decode cX1_moveWork 44 = .ok (.getfield 42, 3) := by decide +kernel
theorem dX1_moveWork_47 : decode cX1_moveWork 47 = .ok (.iload_n 3, 1) := by decide +kernel
theorem dX1_moveWork_48 : decode cX1_moveWork 48 = .ok (.dup2, 1) := by decide +kernel
theorem dX1_moveWork_49 : decode cX1_moveWork 49 = .ok (.iaload, 1) := by decide +kernel
theorem dX1_moveWork_50 : decode cX1_moveWork 50 = .ok (.iload 4, 2) := by decide +kernel
theorem dX1_moveWork_52 : decode cX1_moveWork 52 = .ok (.iadd, 1) := by decide +kernel
theorem dX1_moveWork_53 : decode cX1_moveWork 53 = .ok (.iastore, 1) := by decide +kernel
theorem dX1_moveWork_54 : decode cX1_moveWork 54 = .ok (.aload_n 0, 1) := by decide +kernel
theorem dX1_moveWork_55 : decode cX1_moveWork 55 = .ok (.getfield 45, 3) := by decide +kernel
theorem dX1_moveWork_58 : decode cX1_moveWork 58 = .ok (.iload_n 3, 1) := by decide +kernel
theorem dX1_moveWork_59 : decode cX1_moveWork 59 = .ok (.dup2, 1) := by decide +kernel
theorem dX1_moveWork_60 : decode cX1_moveWork 60 = .ok (.iaload, 1) := by decide +kernel
theorem dX1_moveWork_61 : decode cX1_moveWork 61 = .ok (.iload 4, 2) := by decide +kernel
theorem dX1_moveWork_63 : decode cX1_moveWork 63 = .ok (.iadd, 1) := by decide +kernel
theorem dX1_moveWork_64 : decode cX1_moveWork 64 = .ok (.iastore, 1) := by decide +kernel
theorem dX1_moveWork_65 : decode cX1_moveWork 65 = .ok (.iinc 3 1, 3) := by decide +kernel
theorem dX1_moveWork_68 : decode cX1_moveWork 68 = .ok (.goto (-66), 3) := by decide +kernel
theorem dX1_moveWork_71 : decode cX1_moveWork 71 = .ok (.return_, 1) := by decide +kernel
theorem dX1_eventKey_0 : decode cX1_eventKey 0 = .ok (.iconst 0, 1) := by decide +kernel
theorem dX1_eventKey_1 : decode cX1_eventKey 1 = .ok (.istore_n 2, 1) := by decide +kernel
theorem dX1_eventKey_2 : decode cX1_eventKey 2 = .ok (.iload_n 2, 1) := by decide +kernel
theorem dX1_eventKey_3 : decode cX1_eventKey 3 = .ok (.iconst 2, 1) := by decide +kernel
theorem dX1_eventKey_4 : decode cX1_eventKey 4 = .ok (.aload_n 0, 1) := by decide +kernel
theorem dX1_eventKey_5 : decode cX1_eventKey 5 = .ok (.getfield 52, 3) := by decide +kernel
theorem dX1_eventKey_8 : decode cX1_eventKey 8 = .ok (.imul, 1) := by decide +kernel
theorem dX1_eventKey_9 : decode cX1_eventKey 9 = .ok (.if_icmp .ge 59, 3) := by decide +kernel
theorem dX1_eventKey_12 : decode cX1_eventKey 12 = .ok (.aload_n 0, 1) := by decide +kernel
theorem dX1_eventKey_13 : decode cX1_eventKey 13 = .ok (.iload_n 2, 1) := by decide +kernel
theorem dX1_eventKey_14 : decode cX1_eventKey 14 = .ok (.invokevirtual 112, 3) := by decide +kernel
theorem dX1_eventKey_17 : decode cX1_eventKey 17 = .ok (.istore_n 3, 1) := by decide +kernel
theorem dX1_eventKey_18 : decode cX1_eventKey 18 = .ok (.iconst 0, 1) := by decide +kernel
theorem dX1_eventKey_19 : decode cX1_eventKey 19 = .ok (.istore 4, 2) := by decide +kernel
theorem dX1_eventKey_21 : decode cX1_eventKey 21 = .ok (.iconst 0, 1) := by decide +kernel
theorem dX1_eventKey_22 : decode cX1_eventKey 22 = .ok (.istore 5, 2) := by decide +kernel
theorem dX1_eventKey_24 : decode cX1_eventKey 24 = .ok (.iload 5, 2) := by decide +kernel
theorem dX1_eventKey_26 : decode cX1_eventKey 26 = .ok (.iconst 2, 1) := by decide +kernel
theorem dX1_eventKey_27 : decode cX1_eventKey 27 = .ok (.aload_n 0, 1) := by decide +kernel
theorem dX1_eventKey_28 : decode cX1_eventKey 28 = .ok (.getfield 52, 3) := by decide +kernel
theorem dX1_eventKey_31 : decode cX1_eventKey 31 = .ok (.imul, 1) := by decide +kernel
theorem dX1_eventKey_32 : decode cX1_eventKey 32 = .ok (.if_icmp .ge 22, 3) := by decide +kernel
theorem dX1_eventKey_35 : decode cX1_eventKey 35 = .ok (.aload_n 0, 1) := by decide +kernel
theorem dX1_eventKey_36 : decode cX1_eventKey 36 = .ok (.iload 5, 2) := by decide +kernel
theorem dX1_eventKey_38 : decode cX1_eventKey 38 = .ok (.invokevirtual 112, 3) := by decide +kernel
theorem dX1_eventKey_41 : decode cX1_eventKey 41 = .ok (.iload_n 3, 1) := by decide +kernel
theorem dX1_eventKey_42 : decode cX1_eventKey 42 = .ok (.if_icmp .ge 6, 3) := by decide +kernel
theorem dX1_eventKey_45 : decode cX1_eventKey 45 = .ok (.iinc 4 1, 3) := by decide +kernel
theorem dX1_eventKey_48 : decode cX1_eventKey 48 = .ok (.iinc 5 1, 3) := by decide +kernel
theorem dX1_eventKey_51 : decode cX1_eventKey 51 = .ok (.goto (-27), 3) := by decide +kernel
theorem dX1_eventKey_54 : decode cX1_eventKey 54 = .ok (.iload 4, 2) := by decide +kernel
theorem dX1_eventKey_56 : decode cX1_eventKey 56 = .ok (.iload_n 1, 1) := by decide +kernel
theorem dX1_eventKey_57 : decode cX1_eventKey 57 = .ok (.if_icmp .ne 5, 3) := by decide +kernel
theorem dX1_eventKey_60 : decode cX1_eventKey 60 = .ok (.iload_n 3, 1) := by decide +kernel
theorem dX1_eventKey_61 : decode cX1_eventKey 61 = .ok (.ireturn, 1) := by decide +kernel
theorem dX1_eventKey_62 : decode cX1_eventKey 62 = .ok (.iinc 2 1, 3) := by decide +kernel
theorem dX1_eventKey_65 : decode cX1_eventKey 65 = .ok (.goto (-63), 3) := by decide +kernel
theorem dX1_eventKey_68 : decode cX1_eventKey 68 = .ok (.iconst (-1), 1) := by decide +kernel
theorem dX1_eventKey_69 : decode cX1_eventKey 69 = .ok (.ireturn, 1) := by decide +kernel
theorem dX1_keyOf_0 : decode cX1_keyOf 0 = .ok (.iload_n 1, 1) := by decide +kernel
theorem dX1_keyOf_1 : decode cX1_keyOf 1 = .ok (.iconst 2, 1) := by decide +kernel
theorem dX1_keyOf_2 : decode cX1_keyOf 2 = .ok (.idiv, 1) := by decide +kernel
theorem dX1_keyOf_3 : decode cX1_keyOf 3 = .ok (.istore_n 2, 1) := by decide +kernel
theorem dX1_keyOf_4 : decode cX1_keyOf 4 = .ok (.iload_n 1, 1) := by decide +kernel
theorem dX1_keyOf_5 : decode cX1_keyOf 5 = .ok (.iconst 2, 1) := by decide +kernel
theorem dX1_keyOf_6 : decode cX1_keyOf 6 = .ok (.irem, 1) := by decide +kernel
theorem dX1_keyOf_7 : decode cX1_keyOf 7 = .ok (.istore_n 3, 1) := by decide +kernel
theorem dX1_keyOf_8 : decode cX1_keyOf 8 = .ok (.iload_n 3, 1) := by decide +kernel
theorem dX1_keyOf_9 : decode cX1_keyOf 9 = .ok (.iconst 1, 1) := by decide +kernel
theorem dX1_keyOf_10 : decode cX1_keyOf 10 = .ok (.if_icmp .ne 12, 3) := by decide +kernel
theorem dX1_keyOf_13 : decode cX1_keyOf 13 = .ok (.aload_n 0, 1) := by decide +kernel
theorem dX1_keyOf_14 : decode cX1_keyOf 14 = .ok (.getfield 15, 3) := by decide +kernel
theorem dX1_keyOf_17 : decode cX1_keyOf 17 = .ok (.iload_n 2, 1) := by decide +kernel
theorem dX1_keyOf_18 : decode cX1_keyOf 18 = .ok (.iaload, 1) := by decide +kernel
theorem dX1_keyOf_19 : decode cX1_keyOf 19 = .ok (.goto 19, 3) := by decide +kernel
theorem dX1_keyOf_22 : decode cX1_keyOf 22 = .ok (.aload_n 0, 1) := by decide +kernel
theorem dX1_keyOf_23 : decode cX1_keyOf 23 = .ok (.getfield 15, 3) := by decide +kernel
theorem dX1_keyOf_26 : decode cX1_keyOf 26 = .ok (.iload_n 2, 1) := by decide +kernel
theorem dX1_keyOf_27 : decode cX1_keyOf 27 = .ok (.iaload, 1) := by decide +kernel
theorem dX1_keyOf_28 : decode cX1_keyOf 28 = .ok (.aload_n 0, 1) := by decide +kernel
theorem dX1_keyOf_29 : decode cX1_keyOf 29 = .ok (.getfield 18, 3) := by decide +kernel
theorem dX1_keyOf_32 : decode cX1_keyOf 32 = .ok (.iload_n 2, 1) := by decide +kernel
theorem dX1_keyOf_33 : decode cX1_keyOf 33 = .ok (.iaload, 1) := by decide +kernel
theorem dX1_keyOf_34 : decode cX1_keyOf 34 = .ok (.iadd, 1) := by decide +kernel
theorem dX1_keyOf_35 : decode cX1_keyOf 35 = .ok (.bipush 64, 2) := by decide +kernel
theorem dX1_keyOf_37 : decode cX1_keyOf 37 = .ok (.irem, 1) := by decide +kernel
theorem dX1_keyOf_38 : decode cX1_keyOf 38 = .ok (.istore 4, 2) := by decide +kernel
theorem dX1_keyOf_40 : decode cX1_keyOf 40 = .ok (.iconst 2, 1) := by decide +kernel
theorem dX1_keyOf_41 : decode cX1_keyOf 41 = .ok (.iload 4, 2) := by decide +kernel
theorem dX1_keyOf_43 : decode cX1_keyOf 43 = .ok (.imul, 1) := by decide +kernel
theorem dX1_keyOf_44 : decode cX1_keyOf 44 = .ok (.aload_n 0, 1) := by decide +kernel
theorem dX1_keyOf_45 : decode cX1_keyOf 45 = .ok (.getfield 48, 3) := by decide +kernel
theorem dX1_keyOf_48 : decode cX1_keyOf 48 = .ok (.imul, 1) := by decide +kernel
theorem dX1_keyOf_49 : decode cX1_keyOf 49 = .ok (.iload_n 3, 1) := by decide +kernel
theorem dX1_keyOf_50 : decode cX1_keyOf 50 = .ok (.iadd, 1) := by decide +kernel
theorem dX1_keyOf_51 : decode cX1_keyOf 51 = .ok (.iconst 4, 1) := by decide +kernel
theorem dX1_keyOf_52 : decode cX1_keyOf 52 = .ok (.imul, 1) := by decide +kernel
theorem dX1_keyOf_53 : decode cX1_keyOf 53 = .ok (.iload_n 2, 1) := by decide +kernel
theorem dX1_keyOf_54 : decode cX1_keyOf 54 = .ok (.iadd, 1) := by decide +kernel
theorem dX1_keyOf_55 : decode cX1_keyOf 55 = .ok (.ireturn, 1) := by decide +kernel
theorem dX1_openAt_0 : decode cX1_openAt 0 = .ok (.iconst 0, 1) := by decide +kernel
theorem dX1_openAt_1 : decode cX1_openAt 1 = .ok (.istore_n 2, 1) := by decide +kernel
theorem dX1_openAt_2 : decode cX1_openAt 2 = .ok (.iconst 0, 1) := by decide +kernel
theorem dX1_openAt_3 : decode cX1_openAt 3 = .ok (.istore_n 3, 1) := by decide +kernel
theorem dX1_openAt_4 : decode cX1_openAt 4 = .ok (.iload_n 3, 1) := by decide +kernel
theorem dX1_openAt_5 : decode cX1_openAt 5 = .ok (.aload_n 0, 1) := by decide +kernel
theorem dX1_openAt_6 : decode cX1_openAt 6 = .ok (.getfield 52, 3) := by decide +kernel
theorem dX1_openAt_9 : decode cX1_openAt 9 = .ok (.if_icmp .ge 57, 3) := by decide +kernel
theorem dX1_openAt_12 : decode cX1_openAt 12 = .ok (.iload_n 1, 1) := by decide +kernel
theorem dX1_openAt_13 : decode cX1_openAt 13 = .ok (.aload_n 0, 1) := by decide +kernel
theorem dX1_openAt_14 : decode cX1_openAt 14 = .ok (.getfield 15, 3) := by decide +kernel
theorem dX1_openAt_17 : decode cX1_openAt 17 = .ok (.iload_n 3, 1) := by decide +kernel
theorem dX1_openAt_18 : decode cX1_openAt 18 = .ok (.iaload, 1) := by decide +kernel
theorem dX1_openAt_19 : decode cX1_openAt 19 = .ok (.aload_n 0, 1) := by decide +kernel
theorem dX1_openAt_20 : decode cX1_openAt 20 = .ok (.getfield 48, 3) := by decide +kernel
theorem dX1_openAt_23 : decode cX1_openAt 23 = .ok (.imul, 1) := by decide +kernel
theorem dX1_openAt_24 : decode cX1_openAt 24 = .ok (.isub, 1) := by decide +kernel
theorem dX1_openAt_25 : decode cX1_openAt 25 = .ok (.bipush 64, 2) := by decide +kernel
theorem dX1_openAt_27 : decode cX1_openAt 27 = .ok (.aload_n 0, 1) := by decide +kernel
theorem dX1_openAt_28 : decode cX1_openAt 28 = .ok (.getfield 48, 3) := by decide +kernel
theorem dX1_openAt_31 : decode cX1_openAt 31 = .ok (.imul, 1) := by decide +kernel
theorem dX1_openAt_32 : decode cX1_openAt 32 = .ok (.iconst 1, 1) := by decide +kernel
theorem dX1_openAt_33 : decode cX1_openAt 33 = .ok (.invokestatic 90, 3) := by decide +kernel
theorem dX1_openAt_36 : decode cX1_openAt 36 = .ok (.invokestatic 115, 3) := by decide +kernel
theorem dX1_openAt_39 : decode cX1_openAt 39 = .ok (.istore 4, 2) := by decide +kernel
theorem dX1_openAt_41 : decode cX1_openAt 41 = .ok (.iload 4, 2) := by decide +kernel
theorem dX1_openAt_43 : decode cX1_openAt 43 = .ok (.aload_n 0, 1) := by decide +kernel
theorem dX1_openAt_44 : decode cX1_openAt 44 = .ok (.getfield 18, 3) := by decide +kernel
theorem dX1_openAt_47 : decode cX1_openAt 47 = .ok (.iload_n 3, 1) := by decide +kernel
theorem dX1_openAt_48 : decode cX1_openAt 48 = .ok (.iaload, 1) := by decide +kernel
theorem dX1_openAt_49 : decode cX1_openAt 49 = .ok (.aload_n 0, 1) := by decide +kernel
theorem dX1_openAt_50 : decode cX1_openAt 50 = .ok (.getfield 48, 3) := by decide +kernel
theorem dX1_openAt_53 : decode cX1_openAt 53 = .ok (.imul, 1) := by decide +kernel
theorem dX1_openAt_54 : decode cX1_openAt 54 = .ok (.if_icmp .ge 6, 3) := by decide +kernel
theorem dX1_openAt_57 : decode cX1_openAt 57 = .ok (.iinc 2 1, 3) := by decide +kernel
theorem dX1_openAt_60 : decode cX1_openAt 60 = .ok (.iinc 3 1, 3) := by decide +kernel
theorem dX1_openAt_63 : decode cX1_openAt 63 = .ok (.goto (-59), 3) := by decide +kernel
theorem dX1_openAt_66 : decode cX1_openAt 66 = .ok (.iload_n 2, 1) := by decide +kernel
theorem dX1_openAt_67 : decode cX1_openAt 67 = .ok (.ireturn, 1) := by decide +kernel
theorem dX2_init_0 : decode cX2_init 0 = .ok (.aload_n 0, 1) := by decide +kernel
theorem dX2_init_1 : decode cX2_init 1 = .ok (.invokespecial 1, 3) := by decide +kernel
theorem dX2_init_4 : decode cX2_init 4 = .ok (.aload_n 0, 1) := by decide +kernel
theorem dX2_init_5 : decode cX2_init 5 = .ok (.sipush 1180, 3) := by decide +kernel
theorem dX2_init_8 : decode cX2_init 8 = .ok (.newarray .int, 2) := by decide +kernel
theorem dX2_init_10 : decode cX2_init 10 = .ok (.putfield 11, 3) := by decide +kernel
theorem dX2_init_13 : decode cX2_init 13 = .ok (.aload_n 0, 1) := by decide +kernel
theorem dX2_init_14 : decode cX2_init 14 = .ok (.bipush 59, 2) := by decide +kernel
theorem dX2_init_16 : decode cX2_init 16 = .ok (.newarray .int, 2) := by decide +kernel
theorem dX2_init_18 : decode cX2_init 18 = .ok (.putfield 15, 3) := by decide +kernel
theorem dX2_init_21 : decode cX2_init 21 = .ok (.return_, 1) := by decide +kernel
theorem dX2_push_0 : decode cX2_push 0 = .ok (.aload_n 1, 1) := by decide +kernel
theorem dX2_push_1 : decode cX2_push 1 = .ok (.aload_n 0, 1) := by decide +kernel
theorem dX2_push_2 : decode cX2_push 2 = .ok (.getfield 11, 3) := by decide +kernel
theorem dX2_push_5 : decode cX2_push 5 = .ok (.aload_n 0, 1) := by decide +kernel
theorem dX2_push_6 : decode cX2_push 6 = .ok (.getfield 18, 3) := by decide +kernel
theorem dX2_push_9 : decode cX2_push 9 = .ok (.bipush 59, 2) := by decide +kernel
theorem dX2_push_11 : decode cX2_push 11 = .ok (.imul, 1) := by decide +kernel
theorem dX2_push_12 : decode cX2_push 12 = .ok (.invokevirtual 22, 3) := by decide +kernel
theorem dX2_push_15 : decode cX2_push 15 = .ok (.aload_n 0, 1) := by decide +kernel
theorem dX2_push_16 : decode cX2_push 16 = .ok (.aload_n 0, 1) := by decide +kernel
theorem dX2_push_17 : decode cX2_push 17 = .ok (.getfield 18, 3) := by decide +kernel
theorem dX2_push_20 : decode cX2_push 20 = .ok (.iconst 1, 1) := by decide +kernel
theorem dX2_push_21 : decode cX2_push 21 = .ok (.iadd, 1) := by decide +kernel
theorem dX2_push_22 : decode cX2_push 22 = .ok (.bipush 20, 2) := by decide +kernel
theorem dX2_push_24 : decode cX2_push 24 = .ok (.irem, 1) := by decide +kernel
theorem dX2_push_25 : decode cX2_push 25 = .ok (.putfield 18, 3) := by decide +kernel
theorem dX2_push_28 : decode cX2_push 28 = .ok (.aload_n 0, 1) := by decide +kernel
theorem dX2_push_29 : decode cX2_push 29 = .ok (.aload_n 0, 1) := by decide +kernel
theorem dX2_push_30 : decode cX2_push 30 = .ok (.getfield 26, 3) := by decide +kernel
theorem dX2_push_33 : decode cX2_push 33 = .ok (.iconst 1, 1) := by decide +kernel
theorem dX2_push_34 : decode cX2_push 34 = .ok (.iadd, 1) := by decide +kernel
theorem dX2_push_35 : decode cX2_push 35 = .ok (.bipush 20, 2) := by decide +kernel
theorem dX2_push_37 : decode cX2_push 37 = .ok (.invokestatic 29, 3) := by decide +kernel
theorem dX2_push_40 : decode cX2_push 40 = .ok (.putfield 26, 3) := by decide +kernel
theorem dX2_push_43 : decode cX2_push 43 = .ok (.return_, 1) := by decide +kernel
theorem dX2_pop_0 : decode cX2_pop 0 = .ok (.aload_n 0, 1) := by decide +kernel
theorem dX2_pop_1 : decode cX2_pop 1 = .ok (.aload_n 0, 1) := by decide +kernel
theorem dX2_pop_2 : decode cX2_pop 2 = .ok (.getfield 18, 3) := by decide +kernel
theorem dX2_pop_5 : decode cX2_pop 5 = .ok (.bipush 20, 2) := by decide +kernel
theorem dX2_pop_7 : decode cX2_pop 7 = .ok (.iadd, 1) := by decide +kernel
theorem dX2_pop_8 : decode cX2_pop 8 = .ok (.iconst 1, 1) := by decide +kernel
theorem dX2_pop_9 : decode cX2_pop 9 = .ok (.isub, 1) := by decide +kernel
theorem dX2_pop_10 : decode cX2_pop 10 = .ok (.bipush 20, 2) := by decide +kernel
theorem dX2_pop_12 : decode cX2_pop 12 = .ok (.irem, 1) := by decide +kernel
theorem dX2_pop_13 : decode cX2_pop 13 = .ok (.putfield 18, 3) := by decide +kernel
theorem dX2_pop_16 : decode cX2_pop 16 = .ok (.aload_n 1, 1) := by decide +kernel
theorem dX2_pop_17 : decode cX2_pop 17 = .ok (.aload_n 0, 1) := by decide +kernel
theorem dX2_pop_18 : decode cX2_pop 18 = .ok (.getfield 11, 3) := by decide +kernel
theorem dX2_pop_21 : decode cX2_pop 21 = .ok (.aload_n 0, 1) := by decide +kernel
theorem dX2_pop_22 : decode cX2_pop 22 = .ok (.getfield 18, 3) := by decide +kernel
theorem dX2_pop_25 : decode cX2_pop 25 = .ok (.bipush 59, 2) := by decide +kernel
theorem dX2_pop_27 : decode cX2_pop 27 = .ok (.imul, 1) := by decide +kernel
theorem dX2_pop_28 : decode cX2_pop 28 = .ok (.invokevirtual 35, 3) := by decide +kernel
theorem dX2_pop_31 : decode cX2_pop 31 = .ok (.aload_n 0, 1) := by decide +kernel
theorem dX2_pop_32 : decode cX2_pop 32 = .ok (.dup, 1) := by decide +kernel
theorem dX2_pop_33 : decode cX2_pop 33 = .ok (.getfield 26, 3) := by decide +kernel
theorem dX2_pop_36 : decode cX2_pop 36 = .ok (.iconst 1, 1) := by decide +kernel
theorem dX2_pop_37 : decode cX2_pop 37 = .ok (.isub, 1) := by decide +kernel
theorem dX2_pop_38 : decode cX2_pop 38 = .ok (.putfield 26, 3) := by decide +kernel
theorem dX2_pop_41 : decode cX2_pop 41 = .ok (.return_, 1) := by decide +kernel
theorem dX2_forgetAll_0 : decode cX2_forgetAll 0 = .ok (.aload_n 0, 1) := by decide +kernel
theorem dX2_forgetAll_1 : decode cX2_forgetAll 1 = .ok (.iconst 0, 1) := by decide +kernel
theorem dX2_forgetAll_2 : decode cX2_forgetAll 2 = .ok (.putfield 26, 3) := by decide +kernel
theorem dX2_forgetAll_5 : decode cX2_forgetAll 5 = .ok (.return_, 1) := by decide +kernel
theorem dX2_keepImage_0 : decode cX2_keepImage 0 = .ok (.aload_n 1, 1) := by decide +kernel
theorem dX2_keepImage_1 : decode cX2_keepImage 1 = .ok (.aload_n 0, 1) := by decide +kernel
theorem dX2_keepImage_2 : decode cX2_keepImage 2 = .ok (.getfield 15, 3) := by decide +kernel
theorem dX2_keepImage_5 : decode cX2_keepImage 5 = .ok (.iconst 0, 1) := by decide +kernel
theorem dX2_keepImage_6 : decode cX2_keepImage 6 = .ok (.invokevirtual 22, 3) := by decide +kernel
theorem dX2_keepImage_9 : decode cX2_keepImage 9 = .ok (.aload_n 0, 1) := by decide +kernel
theorem dX2_keepImage_10 : decode cX2_keepImage 10 = .ok (.iconst 1, 1) := by decide +kernel
theorem dX2_keepImage_11 : decode cX2_keepImage 11 = .ok (.putfield 38, 3) := by decide +kernel
theorem dX2_keepImage_14 : decode cX2_keepImage 14 = .ok (.return_, 1) := by decide +kernel
theorem dX2_restoreImage_0 : decode cX2_restoreImage 0 = .ok (.aload_n 1, 1) := by decide +kernel
theorem dX2_restoreImage_1 : decode cX2_restoreImage 1 = .ok (.aload_n 0, 1) := by decide +kernel
theorem dX2_restoreImage_2 : decode cX2_restoreImage 2 = .ok (.getfield 15, 3) := by decide +kernel
theorem dX2_restoreImage_5 : decode cX2_restoreImage 5 = .ok (.iconst 0, 1) := by decide +kernel
theorem dX2_restoreImage_6 : decode cX2_restoreImage 6 = .ok (.invokevirtual 35, 3) := by decide +kernel
theorem dX2_restoreImage_9 : decode cX2_restoreImage 9 = .ok (.return_, 1) := by decide +kernel
theorem dX3_init_0 : decode cX3_init 0 = .ok (.aload_n 0, 1) := by decide +kernel
theorem dX3_init_1 : decode cX3_init 1 = .ok (.invokespecial 3, 3) := by decide +kernel
theorem dX3_init_4 : decode cX3_init 4 = .ok (.aload_n 0, 1) := by decide +kernel
theorem dX3_init_5 : decode cX3_init 5 = .ok (.new 9, 3) := by decide +kernel
theorem dX3_init_8 : decode cX3_init 8 = .ok (.dup, 1) := by decide +kernel
theorem dX3_init_9 : decode cX3_init 9 = .ok (.invokespecial 11, 3) := by decide +kernel
theorem dX3_init_12 : decode cX3_init 12 = .ok (.putfield 12, 3) := by decide +kernel
theorem dX3_init_15 : decode cX3_init 15 = .ok (.aload_n 0, 1) := by decide +kernel
theorem dX3_init_16 : decode cX3_init 16 = .ok (.iconst (-1), 1) := by decide +kernel
theorem dX3_init_17 : decode cX3_init 17 = .ok (.putfield 18, 3) := by decide +kernel
theorem dX3_init_20 : decode cX3_init 20 = .ok (.aload_n 0, 1) := by decide +kernel
theorem dX3_init_21 : decode cX3_init 21 = .ok (.aload_n 1, 1) := by decide +kernel
theorem dX3_init_22 : decode cX3_init 22 = .ok (.putfield 22, 3) := by decide +kernel
theorem dX3_init_25 : decode cX3_init 25 = .ok (.return_, 1) := by decide +kernel
theorem dX3_read_0 : decode cX3_read 0 = .ok (.aload_n 0, 1) := by decide +kernel
theorem dX3_read_1 : decode cX3_read 1 = .ok (.iload_n 1, 1) := by decide +kernel
theorem dX3_read_2 : decode cX3_read 2 = .ok (.aload_n 0, 1) := by decide +kernel
theorem dX3_read_3 : decode cX3_read 3 = .ok (.getfield 22, 3) := by decide +kernel
theorem dX3_read_6 : decode cX3_read 6 = .ok (.arraylength, 1) := by decide +kernel
theorem dX3_read_7 : decode cX3_read 7 = .ok (.invokestatic 26, 3) := by decide +kernel
theorem dX3_read_10 : decode cX3_read 10 = .ok (.putfield 32, 3) := by decide +kernel
theorem dX3_read_13 : decode cX3_read 13 = .ok (.aload_n 0, 1) := by decide +kernel
theorem dX3_read_14 : decode cX3_read 14 = .ok (.iconst 0, 1) := by decide +kernel
theorem dX3_read_15 : decode cX3_read 15 = .ok (.putfield 35, 3) := by decide +kernel
theorem dX3_read_18 : decode cX3_read 18 = .ok (.aload_n 0, 1) := by decide +kernel
theorem dX3_read_19 : decode cX3_read 19 = .ok (.iconst 0, 1) := by decide +kernel
theorem dX3_read_20 : decode cX3_read 20 = .ok (.putfield 38, 3) := by decide +kernel
theorem dX3_read_23 : decode cX3_read 23 = .ok (.aload_n 0, 1) := by decide +kernel
theorem dX3_read_24 : decode cX3_read 24 = .ok (.iconst 0, 1) := by decide +kernel
theorem dX3_read_25 : decode cX3_read 25 = .ok (.putfield 41, 3) := by decide +kernel
theorem dX3_read_28 : decode cX3_read 28 = .ok (.aload_n 0, 1) := by decide +kernel
theorem dX3_read_29 : decode cX3_read 29 = .ok (.iconst (-1), 1) := by decide +kernel
theorem dX3_read_30 : decode cX3_read 30 = .ok (.putfield 18, 3) := by decide +kernel
theorem dX3_read_33 : decode cX3_read 33 = .ok (.aload_n 0, 1) := by decide +kernel
theorem dX3_read_34 : decode cX3_read 34 = .ok (.iconst 0, 1) := by decide +kernel
theorem dX3_read_35 : decode cX3_read 35 = .ok (.putfield 44, 3) := by decide +kernel
theorem dX3_read_38 : decode cX3_read 38 = .ok (.aload_n 0, 1) := by decide +kernel
theorem dX3_read_39 : decode cX3_read 39 = .ok (.iconst 0, 1) := by decide +kernel
theorem dX3_read_40 : decode cX3_read 40 = .ok (.putfield 48, 3) := by decide +kernel
theorem dX3_read_43 : decode cX3_read 43 = .ok (.aload_n 0, 1) := by decide +kernel
theorem dX3_read_44 : decode cX3_read 44 = .ok (.iconst 0, 1) := by decide +kernel
theorem dX3_read_45 : decode cX3_read 45 = .ok (.putfield 51, 3) := by decide +kernel
theorem dX3_read_48 : decode cX3_read 48 = .ok (.aload_n 0, 1) := by decide +kernel
theorem dX3_read_49 : decode cX3_read 49 = .ok (.getfield 12, 3) := by decide +kernel
theorem dX3_read_52 : decode cX3_read 52 = .ok (.invokevirtual 54, 3) := by decide +kernel
theorem dX3_read_55 : decode cX3_read 55 = .ok (.iconst 0, 1) := by decide +kernel
theorem dX3_read_56 : decode cX3_read 56 = .ok (.istore_n 2, 1) := by decide +kernel
theorem dX3_read_57 : decode cX3_read 57 = .ok (.iload_n 2, 1) := by decide +kernel
theorem dX3_read_58 : decode cX3_read 58 = .ok (.aload_n 0, 1) := by decide +kernel
theorem dX3_read_59 : decode cX3_read 59 = .ok (.getfield 32, 3) := by decide +kernel
theorem dX3_read_62 : decode cX3_read 62 = .ok (.if_icmp .gt 46, 3) := by decide +kernel
theorem dX3_read_65 : decode cX3_read 65 = .ok (.aload_n 0, 1) := by decide +kernel
theorem dX3_read_66 : decode cX3_read 66 = .ok (.invokevirtual 57, 3) := by decide +kernel
theorem dX3_read_69 : decode cX3_read 69 = .ok (.aload_n 0, 1) := by decide +kernel
theorem dX3_read_70 : decode cX3_read 70 = .ok (.getfield 60, 3) := by decide +kernel
theorem dX3_read_73 : decode cX3_read 73 = .ok (.ifCond .ne 6, 3) := by decide +kernel
theorem dX3_read_76 : decode cX3_read 76 = .ok (.goto 32, 3) := by decide +kernel
theorem dX3_read_79 : decode cX3_read 79 = .ok (.aload_n 0, 1) := by decide +kernel
theorem dX3_read_80 : decode cX3_read 80 = .ok (.invokevirtual 63, 3) := by decide +kernel
theorem dX3_read_83 : decode cX3_read 83 = .ok (.aload_n 0, 1) := by decide +kernel
theorem dX3_read_84 : decode cX3_read 84 = .ok (.getfield 41, 3) := by decide +kernel
theorem dX3_read_87 : decode cX3_read 87 = .ok (.ifCond .eq 5, 3) := by decide +kernel
theorem dX3_read_90 : decode cX3_read 90 = .ok (.iconst 0, 1) := by decide +kernel
theorem dX3_read_91 : decode cX3_read 91 = .ok (.ireturn, 1) := by decide +kernel
theorem dX3_read_92 : decode cX3_read 92 = .ok (.aload_n 0, 1) := by decide +kernel
theorem dX3_read_93 : decode cX3_read 93 = .ok (.dup, 1) := by decide +kernel
theorem dX3_read_94 : decode cX3_read 94 = .ok (.getfield 38, 3) := by decide +kernel
theorem dX3_read_97 : decode cX3_read 97 = .ok (.iconst 1, 1) := by decide +kernel
theorem dX3_read_98 : decode cX3_read 98 = .ok (.iadd, 1) := by decide +kernel
theorem dX3_read_99 : decode cX3_read 99 = .ok (.putfield 38, 3) := by decide +kernel
theorem dX3_read_102 : decode cX3_read 102 = .ok (.iinc 2 1, 3) := by decide +kernel
theorem dX3_read_105 : decode cX3_read 105 = .ok (.goto (-48), 3) := by decide +kernel
theorem dX3_read_108 : decode cX3_read 108 = .ok (.iconst 1, 1) := by decide +kernel
theorem dX3_read_109 : decode cX3_read 109 = .ok (.ireturn, 1) := by decide +kernel
theorem dX3_readLine_0 : decode cX3_readLine 0 = .ok (.aload_n 0, 1) := by decide +kernel
theorem dX3_readLine_1 : decode cX3_readLine 1 = .ok (.getfield 60, 3) := by decide +kernel
theorem dX3_readLine_4 : decode cX3_readLine 4 = .ok (.iconst 1, 1) := by decide +kernel
theorem dX3_readLine_5 : decode cX3_readLine 5 = .ok (.if_icmp .ne 10, 3) := by decide +kernel
theorem dX3_readLine_8 : decode cX3_readLine 8 = .ok (.aload_n 0, 1) := by decide +kernel
theorem dX3_readLine_9 : decode cX3_readLine 9 = .ok (.getfield 66, 3) := by decide +kernel
theorem dX3_readLine_12 : decode cX3_readLine 12 = .ok (.goto 4, 3) := by decide +kernel
theorem dX3_readLine_15 : decode cX3_readLine 15 = .ok (.iconst 0, 1) := by decide +kernel
theorem dX3_readLine_16 : decode cX3_readLine 16 = .ok (.lookupswitch 119 #[(214417408, 90), (404360448, 82), (538583040, 98), (542713316, 68), (545311904, 75), (642945024, 112), (649255936, 105)], 68) := by decide +kernel
theorem dX3_readLine_84 : decode cX3_readLine 84 = .ok (.aload_n 0, 1) := by decide +kernel
theorem dX3_readLine_85 : decode cX3_readLine 85 = .ok (.invokevirtual 69, 3) := by decide +kernel
theorem dX3_readLine_88 : decode cX3_readLine 88 = .ok (.goto 52, 3) := by decide +kernel
theorem dX3_readLine_91 : decode cX3_readLine 91 = .ok (.aload_n 0, 1) := by decide +kernel
theorem dX3_readLine_92 : decode cX3_readLine 92 = .ok (.invokevirtual 72, 3) := by decide +kernel
theorem dX3_readLine_95 : decode cX3_readLine 95 = .ok (.goto 45, 3) := by decide +kernel
theorem dX3_readLine_98 : decode cX3_readLine 98 = .ok (.aload_n 0, 1) := by decide +kernel
theorem dX3_readLine_99 : decode cX3_readLine 99 = .ok (.iconst 0, 1) := by decide +kernel
theorem dX3_readLine_100 : decode cX3_readLine 100 = .ok (.invokevirtual 75, 3) := by decide +kernel
theorem dX3_readLine_103 : decode cX3_readLine 103 = .ok (.goto 37, 3) := by decide +kernel
theorem dX3_readLine_106 : decode cX3_readLine 106 = .ok (.aload_n 0, 1) := by decide +kernel
theorem dX3_readLine_107 : decode cX3_readLine 107 = .ok (.iconst 1, 1) := by decide +kernel
theorem dX3_readLine_108 : decode cX3_readLine 108 = .ok (.invokevirtual 75, 3) := by decide +kernel
theorem dX3_readLine_111 : decode cX3_readLine 111 = .ok (.goto 29, 3) := by decide +kernel
theorem dX3_readLine_114 : decode cX3_readLine 114 = .ok (.aload_n 0, 1) := by decide +kernel
theorem dX3_readLine_115 : decode cX3_readLine 115 = .ok (.invokevirtual 79, 3) := by decide +kernel
theorem dX3_readLine_118 : decode cX3_readLine 118 = .ok (.goto 22, 3) := by decide +kernel
theorem dX3_readLine_121 : decode cX3_readLine 121 = .ok (.aload_n 0, 1) := by decide +kernel
theorem dX3_readLine_122 : decode cX3_readLine 122 = .ok (.invokevirtual 82, 3) := by decide +kernel
theorem dX3_readLine_125 : decode cX3_readLine 125 = .ok (.goto 15, 3) := by decide +kernel
theorem dX3_readLine_128 : decode cX3_readLine 128 = .ok (.aload_n 0, 1) := by decide +kernel
theorem dX3_readLine_129 : decode cX3_readLine 129 = .ok (.invokevirtual 85, 3) := by decide +kernel
theorem dX3_readLine_132 : decode cX3_readLine 132 = .ok (.goto 8, 3) := by decide +kernel
theorem dX3_readLine_135 : decode cX3_readLine 135 = .ok (.aload_n 0, 1) := by decide +kernel
theorem dX3_readLine_136 : decode cX3_readLine 136 = .ok (.iconst 1, 1) := by decide +kernel
theorem dX3_readLine_137 : decode cX3_readLine 137 = .ok (.invokevirtual 88, 3) := by decide +kernel
theorem dX3_readLine_140 : decode cX3_readLine 140 = .ok (.return_, 1) := by decide +kernel
theorem dX3_readPeriod_0 : decode cX3_readPeriod 0 = .ok (.aload_n 0, 1) := by decide +kernel
theorem dX3_readPeriod_1 : decode cX3_readPeriod 1 = .ok (.aload_n 0, 1) := by decide +kernel
theorem dX3_readPeriod_2 : decode cX3_readPeriod 2 = .ok (.getfield 44, 3) := by decide +kernel
theorem dX3_readPeriod_5 : decode cX3_readPeriod 5 = .ok (.iconst 3, 1) := by decide +kernel
theorem dX3_readPeriod_6 : decode cX3_readPeriod 6 = .ok (.invokevirtual 91, 3) := by decide +kernel
theorem dX3_readPeriod_9 : decode cX3_readPeriod 9 = .ok (.aload_n 0, 1) := by decide +kernel
theorem dX3_readPeriod_10 : decode cX3_readPeriod 10 = .ok (.iconst 1, 1) := by decide +kernel
theorem dX3_readPeriod_11 : decode cX3_readPeriod 11 = .ok (.putfield 44, 3) := by decide +kernel
theorem dX3_readPeriod_14 : decode cX3_readPeriod 14 = .ok (.aload_n 0, 1) := by decide +kernel
theorem dX3_readPeriod_15 : decode cX3_readPeriod 15 = .ok (.getfield 12, 3) := by decide +kernel
theorem dX3_readPeriod_18 : decode cX3_readPeriod 18 = .ok (.aload_n 0, 1) := by decide +kernel
theorem dX3_readPeriod_19 : decode cX3_readPeriod 19 = .ok (.iconst 1, 1) := by decide +kernel
theorem dX3_readPeriod_20 : decode cX3_readPeriod 20 = .ok (.sipush 9999, 3) := by decide +kernel
theorem dX3_readPeriod_23 : decode cX3_readPeriod 23 = .ok (.invokevirtual 95, 3) := by decide +kernel
theorem dX3_readPeriod_26 : decode cX3_readPeriod 26 = .ok (.putfield 98, 3) := by decide +kernel
theorem dX3_readPeriod_29 : decode cX3_readPeriod 29 = .ok (.aload_n 0, 1) := by decide +kernel
theorem dX3_readPeriod_30 : decode cX3_readPeriod 30 = .ok (.invokevirtual 101, 3) := by decide +kernel
theorem dX3_readPeriod_33 : decode cX3_readPeriod 33 = .ok (.return_, 1) := by decide +kernel
theorem dX3_readSkew_0 : decode cX3_readSkew 0 = .ok (.aload_n 0, 1) := by decide +kernel
theorem dX3_readSkew_1 : decode cX3_readSkew 1 = .ok (.aload_n 0, 1) := by decide +kernel
theorem dX3_readSkew_2 : decode cX3_readSkew 2 = .ok (.getfield 48, 3) := by decide +kernel
theorem dX3_readSkew_5 : decode cX3_readSkew 5 = .ok (.iconst 3, 1) := by decide +kernel
theorem dX3_readSkew_6 : decode cX3_readSkew 6 = .ok (.invokevirtual 91, 3) := by decide +kernel
theorem dX3_readSkew_9 : decode cX3_readSkew 9 = .ok (.aload_n 0, 1) := by decide +kernel
theorem dX3_readSkew_10 : decode cX3_readSkew 10 = .ok (.iconst 1, 1) := by decide +kernel
theorem dX3_readSkew_11 : decode cX3_readSkew 11 = .ok (.putfield 48, 3) := by decide +kernel
theorem dX3_readSkew_14 : decode cX3_readSkew 14 = .ok (.aload_n 0, 1) := by decide +kernel
theorem dX3_readSkew_15 : decode cX3_readSkew 15 = .ok (.getfield 12, 3) := by decide +kernel
theorem dX3_readSkew_18 : decode cX3_readSkew 18 = .ok (.aload_n 0, 1) := by decide +kernel
theorem dX3_readSkew_19 : decode cX3_readSkew 19 = .ok (.iconst 0, 1) := by decide +kernel
theorem dX3_readSkew_20 : decode cX3_readSkew 20 = .ok (.bipush 99, 2) := by decide +kernel
theorem dX3_readSkew_22 : decode cX3_readSkew 22 = .ok (.invokevirtual 95, 3) := by decide +kernel
theorem dX3_readSkew_25 : decode cX3_readSkew 25 = .ok (.putfield 104, 3) := by decide +kernel
theorem dX3_readSkew_28 : decode cX3_readSkew 28 = .ok (.aload_n 0, 1) := by decide +kernel
theorem dX3_readSkew_29 : decode cX3_readSkew 29 = .ok (.invokevirtual 101, 3) := by decide +kernel
theorem dX3_readSkew_32 : decode cX3_readSkew 32 = .ok (.return_, 1) := by decide +kernel
theorem dX3_readSeed_0 : decode cX3_readSeed 0 = .ok (.aload_n 0, 1) := by decide +kernel
theorem dX3_readSeed_1 : decode cX3_readSeed 1 = .ok (.aload_n 0, 1) := by decide +kernel
theorem dX3_readSeed_2 : decode cX3_readSeed 2 = .ok (.getfield 51, 3) := by decide +kernel
theorem dX3_readSeed_5 : decode cX3_readSeed 5 = .ok (.iconst 3, 1) := by decide +kernel
theorem dX3_readSeed_6 : decode cX3_readSeed 6 = .ok (.invokevirtual 91, 3) := by decide +kernel
theorem dX3_readSeed_9 : decode cX3_readSeed 9 = .ok (.aload_n 0, 1) := by decide +kernel
theorem dX3_readSeed_10 : decode cX3_readSeed 10 = .ok (.iconst 1, 1) := by decide +kernel
theorem dX3_readSeed_11 : decode cX3_readSeed 11 = .ok (.putfield 51, 3) := by decide +kernel
theorem dX3_readSeed_14 : decode cX3_readSeed 14 = .ok (.aload_n 0, 1) := by decide +kernel
theorem dX3_readSeed_15 : decode cX3_readSeed 15 = .ok (.getfield 12, 3) := by decide +kernel
theorem dX3_readSeed_18 : decode cX3_readSeed 18 = .ok (.aload_n 0, 1) := by decide +kernel
theorem dX3_readSeed_19 : decode cX3_readSeed 19 = .ok (.iconst 0, 1) := by decide +kernel
theorem dX3_readSeed_20 : decode cX3_readSeed 20 = .ok (.ldc 107, 2) := by decide +kernel
theorem dX3_readSeed_22 : decode cX3_readSeed 22 = .ok (.invokevirtual 95, 3) := by decide +kernel
theorem dX3_readSeed_25 : decode cX3_readSeed 25 = .ok (.putfield 108, 3) := by decide +kernel
theorem dX3_readSeed_28 : decode cX3_readSeed 28 = .ok (.aload_n 0, 1) := by decide +kernel
theorem dX3_readSeed_29 : decode cX3_readSeed 29 = .ok (.invokevirtual 101, 3) := by decide +kernel
theorem dX3_readSeed_32 : decode cX3_readSeed 32 = .ok (.return_, 1) := by decide +kernel
theorem dX3_readPhase_0 : decode cX3_readPhase 0 = .ok (.aload_n 0, 1) := by decide +kernel
theorem dX3_readPhase_1 : decode cX3_readPhase 1 = .ok (.aload_n 0, 1) := by decide +kernel
theorem dX3_readPhase_2 : decode cX3_readPhase 2 = .ok (.getfield 12, 3) := by decide +kernel
theorem dX3_readPhase_5 : decode cX3_readPhase 5 = .ok (.getfield 111, 3) := by decide +kernel
theorem dX3_readPhase_8 : decode cX3_readPhase 8 = .ok (.iconst 4, 1) := by decide +kernel
theorem dX3_readPhase_9 : decode cX3_readPhase 9 = .ok (.if_icmp .lt 7, 3) := by decide +kernel
theorem dX3_readPhase_12 : decode cX3_readPhase 12 = .ok (.iconst 1, 1) := by decide +kernel
theorem dX3_readPhase_13 : decode cX3_readPhase 13 = .ok (.goto 4, 3) := by decide +kernel
theorem dX3_readPhase_16 : decode cX3_readPhase 16 = .ok (.iconst 0, 1) := by decide +kernel
theorem dX3_readPhase_17 : decode cX3_readPhase 17 = .ok (.iconst 2, 1) := by decide +kernel
theorem dX3_readPhase_18 : decode cX3_readPhase 18 = .ok (.invokevirtual 91, 3) := by decide +kernel
theorem dX3_readPhase_21 : decode cX3_readPhase 21 = .ok (.aload_n 0, 1) := by decide +kernel
theorem dX3_readPhase_22 : decode cX3_readPhase 22 = .ok (.aload_n 0, 1) := by decide +kernel
theorem dX3_readPhase_23 : decode cX3_readPhase 23 = .ok (.aload_n 0, 1) := by decide +kernel
theorem dX3_readPhase_24 : decode cX3_readPhase 24 = .ok (.getfield 12, 3) := by decide +kernel
theorem dX3_readPhase_27 : decode cX3_readPhase 27 = .ok (.getfield 114, 3) := by decide +kernel
theorem dX3_readPhase_30 : decode cX3_readPhase 30 = .ok (.aload_n 0, 1) := by decide +kernel
theorem dX3_readPhase_31 : decode cX3_readPhase 31 = .ok (.getfield 12, 3) := by decide +kernel
theorem dX3_readPhase_34 : decode cX3_readPhase 34 = .ok (.getfield 111, 3) := by decide +kernel
theorem dX3_readPhase_37 : decode cX3_readPhase 37 = .ok (.invokevirtual 117, 3) := by decide +kernel
theorem dX3_readPhase_40 : decode cX3_readPhase 40 = .ok (.iconst (-1), 1) := by decide +kernel
theorem dX3_readPhase_41 : decode cX3_readPhase 41 = .ok (.if_icmp .eq 7, 3) := by decide +kernel
theorem dX3_readPhase_44 : decode cX3_readPhase 44 = .ok (.iconst 1, 1) := by decide +kernel
theorem dX3_readPhase_45 : decode cX3_readPhase 45 = .ok (.goto 4, 3) := by decide +kernel
theorem dX3_readPhase_48 : decode cX3_readPhase 48 = .ok (.iconst 0, 1) := by decide +kernel
theorem dX3_readPhase_49 : decode cX3_readPhase 49 = .ok (.iconst 3, 1) := by decide +kernel
theorem dX3_readPhase_50 : decode cX3_readPhase 50 = .ok (.invokevirtual 91, 3) := by decide +kernel
theorem dX3_readPhase_53 : decode cX3_readPhase 53 = .ok (.aload_n 0, 1) := by decide +kernel
theorem dX3_readPhase_54 : decode cX3_readPhase 54 = .ok (.getfield 66, 3) := by decide +kernel
theorem dX3_readPhase_57 : decode cX3_readPhase 57 = .ok (.istore_n 1, 1) := by decide +kernel
theorem dX3_readPhase_58 : decode cX3_readPhase 58 = .ok (.aload_n 0, 1) := by decide +kernel
theorem dX3_readPhase_59 : decode cX3_readPhase 59 = .ok (.iconst 0, 1) := by decide +kernel
theorem dX3_readPhase_60 : decode cX3_readPhase 60 = .ok (.bipush 63, 2) := by decide +kernel
theorem dX3_readPhase_62 : decode cX3_readPhase 62 = .ok (.invokevirtual 95, 3) := by decide +kernel
theorem dX3_readPhase_65 : decode cX3_readPhase 65 = .ok (.istore_n 2, 1) := by decide +kernel
theorem dX3_readPhase_66 : decode cX3_readPhase 66 = .ok (.aload_n 0, 1) := by decide +kernel
theorem dX3_readPhase_67 : decode cX3_readPhase 67 = .ok (.iconst 1, 1) := by decide +kernel
theorem dX3_readPhase_68 : decode cX3_readPhase 68 = .ok (.bipush 63, 2) := by decide +kernel
theorem dX3_readPhase_70 : decode cX3_readPhase 70 = .ok (.invokevirtual 95, 3) := by decide +kernel
theorem dX3_readPhase_73 : decode cX3_readPhase 73 = .ok (.istore_n 3, 1) := by decide +kernel
theorem dX3_readPhase_74 : decode cX3_readPhase 74 = .ok (.aload_n 0, 1) := by decide +kernel
theorem dX3_readPhase_75 : decode cX3_readPhase 75 = .ok (.invokevirtual 101, 3) := by decide +kernel
theorem dX3_readPhase_78 : decode cX3_readPhase 78 = .ok (.aload_n 0, 1) := by decide +kernel
theorem dX3_readPhase_79 : decode cX3_readPhase 79 = .ok (.getfield 41, 3) := by decide +kernel
theorem dX3_readPhase_82 : decode cX3_readPhase 82 = .ok (.ifCond .ne 58, 3) := by decide +kernel
theorem dX3_readPhase_85 : decode cX3_readPhase 85 = .ok (.aload_n 0, 1) := by decide +kernel
theorem dX3_readPhase_86 : decode cX3_readPhase 86 = .ok (.getfield 12, 3) := by decide +kernel
theorem dX3_readPhase_89 : decode cX3_readPhase 89 = .ok (.getfield 111, 3) := by decide +kernel
theorem dX3_readPhase_92 : decode cX3_readPhase 92 = .ok (.istore 4, 2) := by decide +kernel
theorem dX3_readPhase_94 : decode cX3_readPhase 94 = .ok (.aload_n 0, 1) := by decide +kernel
theorem dX3_readPhase_95 : decode cX3_readPhase 95 = .ok (.getfield 12, 3) := by decide +kernel
theorem dX3_readPhase_98 : decode cX3_readPhase 98 = .ok (.getfield 114, 3) := by decide +kernel
theorem dX3_readPhase_101 : decode cX3_readPhase 101 = .ok (.iload 4, 2) := by decide +kernel
theorem dX3_readPhase_103 : decode cX3_readPhase 103 = .ok (.iload_n 1, 1) := by decide +kernel
theorem dX3_readPhase_104 : decode cX3_readPhase 104 = .ok (.iastore, 1) := by decide +kernel
theorem dX3_readPhase_105 : decode cX3_readPhase 105 = .ok (.aload_n 0, 1) := by decide +kernel
theorem dX3_readPhase_106 : decode cX3_readPhase 106 = .ok (.getfield 12, 3) := by decide +kernel
theorem dX3_readPhase_109 : decode cX3_readPhase 109 = .ok (.getfield 121, 3) := by decide +kernel
theorem dX3_readPhase_112 : decode cX3_readPhase 112 = .ok (.iload 4, 2) := by decide +kernel
theorem dX3_readPhase_114 : decode cX3_readPhase 114 = .ok (.iload_n 2, 1) := by decide +kernel
theorem dX3_readPhase_115 : decode cX3_readPhase 115 = .ok (.iastore, 1) := by decide +kernel
theorem dX3_readPhase_116 : decode cX3_readPhase 116 = .ok (.aload_n 0, 1) := by decide +kernel
theorem dX3_readPhase_117 : decode cX3_readPhase 117 = .ok (.getfield 12, 3) := by decide +kernel
theorem dX3_readPhase_120 : decode cX3_readPhase 120 = .ok (.getfield 124, 3) := by decide +kernel
theorem dX3_readPhase_123 : decode cX3_readPhase 123 = .ok (.iload 4, 2) := by decide +kernel
theorem dX3_readPhase_125 : decode cX3_readPhase 125 = .ok (.iload_n 3, 1) := by decide +kernel
theorem dX3_readPhase_126 : decode cX3_readPhase 126 = .ok (.iastore, 1) := by decide +kernel
theorem dX3_readPhase_127 : decode cX3_readPhase 127 = .ok (.aload_n 0, 1) := by decide +kernel
theorem dX3_readPhase_128 : decode cX3_readPhase 128 = .ok (.getfield 12, 3) := by decide +kernel
theorem dX3_readPhase_131 : decode cX3_readPhase 131 = .ok (.dup, 1) := by decide +kernel
theorem dX3_readPhase_132 : decode cX3_readPhase 132 = .ok (.getfield 111, 3) := by decide +kernel
theorem dX3_readPhase_135 : decode cX3_readPhase 135 = .ok (.iconst 1, 1) := by decide +kernel
theorem dX3_readPhase_136 : decode cX3_readPhase 136 = .ok (.iadd, 1) := by decide +kernel
theorem dX3_readPhase_137 : decode cX3_readPhase 137 = .ok (.putfield 111, 3) := by decide +kernel
theorem dX3_readPhase_140 : decode cX3_readPhase 140 = .ok (.return_, 1) := by decide +kernel
theorem dX3_readCell_0 : decode cX3_readCell 0 = .ok (.aload_n 0, 1) := by decide +kernel
theorem dX3_readCell_1 : decode cX3_readCell 1 = .ok (.aload_n 0, 1) := by decide +kernel
theorem dX3_readCell_2 : decode cX3_readCell 2 = .ok (.getfield 12, 3) := by decide +kernel
theorem dX3_readCell_5 : decode cX3_readCell 5 = .ok (.getfield 127, 3) := by decide +kernel
theorem dX3_readCell_8 : decode cX3_readCell 8 = .ok (.bipush 10, 2) := by decide +kernel
theorem dX3_readCell_10 : decode cX3_readCell 10 = .ok (.if_icmp .lt 7, 3) := by decide +kernel
theorem dX3_readCell_13 : decode cX3_readCell 13 = .ok (.iconst 1, 1) := by decide +kernel
theorem dX3_readCell_14 : decode cX3_readCell 14 = .ok (.goto 4, 3) := by decide +kernel
theorem dX3_readCell_17 : decode cX3_readCell 17 = .ok (.iconst 0, 1) := by decide +kernel
theorem dX3_readCell_18 : decode cX3_readCell 18 = .ok (.iconst 2, 1) := by decide +kernel
theorem dX3_readCell_19 : decode cX3_readCell 19 = .ok (.invokevirtual 91, 3) := by decide +kernel
theorem dX3_readCell_22 : decode cX3_readCell 22 = .ok (.aload_n 0, 1) := by decide +kernel
theorem dX3_readCell_23 : decode cX3_readCell 23 = .ok (.aload_n 0, 1) := by decide +kernel
theorem dX3_readCell_24 : decode cX3_readCell 24 = .ok (.aload_n 0, 1) := by decide +kernel
theorem dX3_readCell_25 : decode cX3_readCell 25 = .ok (.getfield 12, 3) := by decide +kernel
theorem dX3_readCell_28 : decode cX3_readCell 28 = .ok (.getfield 130, 3) := by decide +kernel
theorem dX3_readCell_31 : decode cX3_readCell 31 = .ok (.aload_n 0, 1) := by decide +kernel
theorem dX3_readCell_32 : decode cX3_readCell 32 = .ok (.getfield 12, 3) := by decide +kernel
theorem dX3_readCell_35 : decode cX3_readCell 35 = .ok (.getfield 127, 3) := by decide +kernel
theorem dX3_readCell_38 : decode cX3_readCell 38 = .ok (.invokevirtual 117, 3) := by decide +kernel
theorem dX3_readCell_41 : decode cX3_readCell 41 = .ok (.iconst (-1), 1) := by decide +kernel
theorem dX3_readCell_42 : decode cX3_readCell 42 = .ok (.if_icmp .eq 7, 3) := by decide +kernel
theorem dX3_readCell_45 : decode cX3_readCell 45 = .ok (.iconst 1, 1) := by decide +kernel
theorem dX3_readCell_46 : decode cX3_readCell 46 = .ok (.goto 4, 3) := by decide +kernel
theorem dX3_readCell_49 : decode cX3_readCell 49 = .ok (.iconst 0, 1) := by decide +kernel
theorem dX3_readCell_50 : decode cX3_readCell 50 = .ok (.iconst 3, 1) := by decide +kernel
theorem dX3_readCell_51 : decode cX3_readCell 51 = .ok (.invokevirtual 91, 3) := by decide +kernel
theorem dX3_readCell_54 : decode cX3_readCell 54 = .ok (.aload_n 0, 1) := by decide +kernel
theorem dX3_readCell_55 : decode cX3_readCell 55 = .ok (.getfield 66, 3) := by decide +kernel
theorem dX3_readCell_58 : decode cX3_readCell 58 = .ok (.istore_n 2, 1) := by decide +kernel
theorem dX3_readCell_59 : decode cX3_readCell 59 = .ok (.aload_n 0, 1) := by decide +kernel
theorem dX3_readCell_60 : decode cX3_readCell 60 = .ok (.aload_n 0, 1) := by decide +kernel
theorem dX3_readCell_61 : decode cX3_readCell 61 = .ok (.getfield 12, 3) := by decide +kernel
theorem dX3_readCell_64 : decode cX3_readCell 64 = .ok (.getfield 114, 3) := by decide +kernel
theorem dX3_readCell_67 : decode cX3_readCell 67 = .ok (.aload_n 0, 1) := by decide +kernel
theorem dX3_readCell_68 : decode cX3_readCell 68 = .ok (.getfield 12, 3) := by decide +kernel
theorem dX3_readCell_71 : decode cX3_readCell 71 = .ok (.getfield 111, 3) := by decide +kernel
theorem dX3_readCell_74 : decode cX3_readCell 74 = .ok (.invokevirtual 117, 3) := by decide +kernel
theorem dX3_readCell_77 : decode cX3_readCell 77 = .ok (.istore_n 3, 1) := by decide +kernel
theorem dX3_readCell_78 : decode cX3_readCell 78 = .ok (.aload_n 0, 1) := by decide +kernel
theorem dX3_readCell_79 : decode cX3_readCell 79 = .ok (.iload_n 3, 1) := by decide +kernel
theorem dX3_readCell_80 : decode cX3_readCell 80 = .ok (.iconst (-1), 1) := by decide +kernel
theorem dX3_readCell_81 : decode cX3_readCell 81 = .ok (.if_icmp .ne 7, 3) := by decide +kernel
theorem dX3_readCell_84 : decode cX3_readCell 84 = .ok (.iconst 1, 1) := by decide +kernel
theorem dX3_readCell_85 : decode cX3_readCell 85 = .ok (.goto 4, 3) := by decide +kernel
theorem dX3_readCell_88 : decode cX3_readCell 88 = .ok (.iconst 0, 1) := by decide +kernel
theorem dX3_readCell_89 : decode cX3_readCell 89 = .ok (.iconst 4, 1) := by decide +kernel
theorem dX3_readCell_90 : decode cX3_readCell 90 = .ok (.invokevirtual 91, 3) := by decide +kernel
theorem dX3_readCell_93 : decode cX3_readCell 93 = .ok (.aload_n 0, 1) := by decide +kernel
theorem dX3_readCell_94 : decode cX3_readCell 94 = .ok (.iconst 0, 1) := by decide +kernel
theorem dX3_readCell_95 : decode cX3_readCell 95 = .ok (.bipush 99, 2) := by decide +kernel
theorem dX3_readCell_97 : decode cX3_readCell 97 = .ok (.invokevirtual 95, 3) := by decide +kernel
theorem dX3_readCell_100 : decode cX3_readCell 100 = .ok (.istore 4, 2) := by decide +kernel
theorem dX3_readCell_102 : decode cX3_readCell 102 = .ok (.aload_n 0, 1) := by decide +kernel
theorem dX3_readCell_103 : decode cX3_readCell 103 = .ok (.iconst 0, 1) := by decide +kernel
theorem dX3_readCell_104 : decode cX3_readCell 104 = .ok (.bipush 99, 2) := by decide +kernel
theorem dX3_readCell_106 : decode cX3_readCell 106 = .ok (.invokevirtual 95, 3) := by decide +kernel
theorem dX3_readCell_109 : decode cX3_readCell 109 = .ok (.istore 5, 2) := by decide +kernel
theorem dX3_readCell_111 : decode cX3_readCell 111 = .ok (.aload_n 0, 1) := by decide +kernel
theorem dX3_readCell_112 : decode cX3_readCell 112 = .ok (.iconst 0, 1) := by decide +kernel
theorem dX3_readCell_113 : decode cX3_readCell 113 = .ok (.bipush 99, 2) := by decide +kernel
theorem dX3_readCell_115 : decode cX3_readCell 115 = .ok (.invokevirtual 95, 3) := by decide +kernel
theorem dX3_readCell_118 : decode cX3_readCell 118 = .ok (.istore 6, 2) := by decide +kernel
theorem dX3_readCell_120 : decode cX3_readCell 120 = .ok (.aload_n 0, 1) := by decide +kernel
theorem dX3_readCell_121 : decode cX3_readCell 121 = .ok (.invokevirtual 101, 3) := by decide +kernel
theorem dX3_readCell_124 : decode cX3_readCell 124 = .ok (.aload_n 0, 1) := by decide +kernel
theorem dX3_readCell_125 : decode cX3_readCell 125 = .ok (.getfield 41, 3) := by decide +kernel
theorem dX3_readCell_128 : decode cX3_readCell 128 = .ok (.ifCond .ne 99, 3) := by decide +kernel
theorem dX3_readCell_131 : decode cX3_readCell 131 = .ok (.aload_n 0, 1) := by decide +kernel
theorem dX3_readCell_132 : decode cX3_readCell 132 = .ok (.getfield 12, 3) := by decide +kernel
theorem dX3_readCell_135 : decode cX3_readCell 135 = .ok (.getfield 127, 3) := by decide +kernel
theorem dX3_readCell_138 : decode cX3_readCell 138 = .ok (.istore 7, 2) := by decide +kernel
theorem dX3_readCell_140 : decode cX3_readCell 140 = .ok (.aload_n 0, 1) := by decide +kernel
theorem dX3_readCell_141 : decode cX3_readCell 141 = .ok (.getfield 12, 3) := by decide +kernel
theorem dX3_readCell_144 : decode cX3_readCell 144 = .ok (.getfield 130, 3) := by decide +kernel
theorem dX3_readCell_147 : decode cX3_readCell 147 = .ok (.iload 7, 2) := by decide +kernel
theorem dX3_readCell_149 : decode cX3_readCell 149 = .ok (.iload_n 2, 1) := by decide +kernel
theorem dX3_readCell_150 : decode cX3_readCell 150 = .ok (.iastore, 1) := by decide +kernel
theorem dX3_readCell_151 : decode cX3_readCell 151 = .ok (.aload_n 0, 1) := by decide +kernel
theorem dX3_readCell_152 : decode cX3_readCell 152 = .ok (.getfield 12, 3) := by decide +kernel
theorem dX3_readCell_155 : decode cX3_readCell 155 = .ok (.getfield 133, 3) := by decide +kernel
theorem dX3_readCell_158 : decode cX3_readCell 158 = .ok (.iload 7, 2) := by decide +kernel
theorem dX3_readCell_160 : decode cX3_readCell 160 = .ok (.iload_n 3, 1) := by decide +kernel
theorem dX3_readCell_161 : decode cX3_readCell 161 = .ok (.iastore, 1) := by decide +kernel
theorem dX3_readCell_162 : decode cX3_readCell 162 = .ok (.aload_n 0, 1) := by decide +kernel
theorem dX3_readCell_163 : decode cX3_readCell 163 = .ok (.getfield 12, 3) := by decide +kernel
theorem dX3_readCell_166 : decode cX3_readCell 166 = .ok (.getfield 136, 3) := by decide +kernel
theorem dX3_readCell_169 : decode cX3_readCell 169 = .ok (.iload 7, 2) := by decide +kernel
theorem dX3_readCell_171 : decode cX3_readCell 171 = .ok (.iload 4, 2) := by decide +kernel
theorem dX3_readCell_173 : decode cX3_readCell 173 = .ok (.iastore, 1) := by decide +kernel
theorem dX3_readCell_174 : decode cX3_readCell 174 = .ok (.aload_n 0, 1) := by decide +kernel
theorem dX3_readCell_175 : decode cX3_readCell 175 = .ok (.getfield 12, 3) := by decide +kernel
theorem dX3_readCell_178 : decode cX3_readCell 178 = .ok (.getfield 139, 3) := by decide +kernel
theorem dX3_readCell_181 : decode cX3_readCell 181 = .ok (.iload 7, 2) := by decide +kernel
theorem dX3_readCell_183 : decode cX3_readCell 183 = .ok (.iload 5, 2) := by decide +kernel
theorem dX3_readCell_185 : decode cX3_readCell 185 = .ok (.iastore, 1) := by decide +kernel
theorem dX3_readCell_186 : decode cX3_readCell 186 = .ok (.aload_n 0, 1) := by decide +kernel
theorem dX3_readCell_187 : decode cX3_readCell 187 = .ok (.getfield 12, 3) := by decide +kernel
theorem dX3_readCell_190 : decode cX3_readCell 190 = .ok (.getfield 142, 3) := by decide +kernel
theorem dX3_readCell_193 : decode cX3_readCell 193 = .ok (.iload 7, 2) := by decide +kernel
theorem dX3_readCell_195 : decode cX3_readCell 195 = .ok (.iload 6, 2) := by decide +kernel
theorem dX3_readCell_197 : decode cX3_readCell 197 = .ok (.iastore, 1) := by decide +kernel
theorem dX3_readCell_198 : decode cX3_readCell 198 = .ok (.aload_n 0, 1) := by decide +kernel
theorem dX3_readCell_199 : decode cX3_readCell 199 = .ok (.getfield 12, 3) := by decide +kernel
theorem dX3_readCell_202 : decode cX3_readCell 202 = .ok (.dup, 1) := by decide +kernel
theorem dX3_readCell_203 : decode cX3_readCell 203 = .ok (.getfield 145, 3) := by decide +kernel
theorem dX3_readCell_206 : decode cX3_readCell 206 = .ok (.iload_n 1, 1) := by decide +kernel
theorem dX3_readCell_207 : decode cX3_readCell 207 = .ok (.iload 7, 2) := by decide +kernel
theorem dX3_readCell_209 : decode cX3_readCell 209 = .ok (.ishl, 1) := by decide +kernel
theorem dX3_readCell_210 : decode cX3_readCell 210 = .ok (.ior, 1) := by decide +kernel
theorem dX3_readCell_211 : decode cX3_readCell 211 = .ok (.putfield 145, 3) := by decide +kernel
theorem dX3_readCell_214 : decode cX3_readCell 214 = .ok (.aload_n 0, 1) := by decide +kernel
theorem dX3_readCell_215 : decode cX3_readCell 215 = .ok (.getfield 12, 3) := by decide +kernel
theorem dX3_readCell_218 : decode cX3_readCell 218 = .ok (.dup, 1) := by decide +kernel
theorem dX3_readCell_219 : decode cX3_readCell 219 = .ok (.getfield 127, 3) := by decide +kernel
theorem dX3_readCell_222 : decode cX3_readCell 222 = .ok (.iconst 1, 1) := by decide +kernel
theorem dX3_readCell_223 : decode cX3_readCell 223 = .ok (.iadd, 1) := by decide +kernel
theorem dX3_readCell_224 : decode cX3_readCell 224 = .ok (.putfield 127, 3) := by decide +kernel
theorem dX3_readCell_227 : decode cX3_readCell 227 = .ok (.return_, 1) := by decide +kernel
theorem dX3_readPath_0 : decode cX3_readPath 0 = .ok (.aload_n 0, 1) := by decide +kernel
theorem dX3_readPath_1 : decode cX3_readPath 1 = .ok (.aload_n 0, 1) := by decide +kernel
theorem dX3_readPath_2 : decode cX3_readPath 2 = .ok (.getfield 12, 3) := by decide +kernel
theorem dX3_readPath_5 : decode cX3_readPath 5 = .ok (.getfield 148, 3) := by decide +kernel
theorem dX3_readPath_8 : decode cX3_readPath 8 = .ok (.bipush 24, 2) := by decide +kernel
theorem dX3_readPath_10 : decode cX3_readPath 10 = .ok (.if_icmp .lt 7, 3) := by decide +kernel
theorem dX3_readPath_13 : decode cX3_readPath 13 = .ok (.iconst 1, 1) := by decide +kernel
theorem dX3_readPath_14 : decode cX3_readPath 14 = .ok (.goto 4, 3) := by decide +kernel
theorem dX3_readPath_17 : decode cX3_readPath 17 = .ok (.iconst 0, 1) := by decide +kernel
theorem dX3_readPath_18 : decode cX3_readPath 18 = .ok (.iconst 2, 1) := by decide +kernel
theorem dX3_readPath_19 : decode cX3_readPath 19 = .ok (.invokevirtual 91, 3) := by decide +kernel
theorem dX3_readPath_22 : decode cX3_readPath 22 = .ok (.aload_n 0, 1) := by decide +kernel
theorem dX3_readPath_23 : decode cX3_readPath 23 = .ok (.aload_n 0, 1) := by decide +kernel
theorem dX3_readPath_24 : decode cX3_readPath 24 = .ok (.getfield 12, 3) := by decide +kernel
theorem dX3_readPath_27 : decode cX3_readPath 27 = .ok (.getfield 130, 3) := by decide +kernel
theorem dX3_readPath_30 : decode cX3_readPath 30 = .ok (.aload_n 0, 1) := by decide +kernel
theorem dX3_readPath_31 : decode cX3_readPath 31 = .ok (.getfield 12, 3) := by decide +kernel
theorem dX3_readPath_34 : decode cX3_readPath 34 = .ok (.getfield 127, 3) := by decide +kernel
theorem dX3_readPath_37 : decode cX3_readPath 37 = .ok (.invokevirtual 117, 3) := by decide +kernel
theorem dX3_readPath_40 : decode cX3_readPath 40 = .ok (.istore_n 1, 1) := by decide +kernel
theorem dX3_readPath_41 : decode cX3_readPath 41 = .ok (.aload_n 0, 1) := by decide +kernel
theorem dX3_readPath_42 : decode cX3_readPath 42 = .ok (.iload_n 1, 1) := by decide +kernel
theorem dX3_readPath_43 : decode cX3_readPath 43 = .ok (.iconst (-1), 1) := by decide +kernel
theorem dX3_readPath_44 : decode cX3_readPath 44 = .ok (.if_icmp .ne 7, 3) := by decide +kernel
theorem dX3_readPath_47 : decode cX3_readPath 47 = .ok (.iconst 1, 1) := by decide +kernel
theorem dX3_readPath_48 : decode cX3_readPath 48 = .ok (.goto 4, 3) := by decide +kernel
theorem dX3_readPath_51 : decode cX3_readPath 51 = .ok (.iconst 0, 1) := by decide +kernel
theorem dX3_readPath_52 : decode cX3_readPath 52 = .ok (.iconst 4, 1) := by decide +kernel
theorem dX3_readPath_53 : decode cX3_readPath 53 = .ok (.invokevirtual 91, 3) := by decide +kernel
theorem dX3_readPath_56 : decode cX3_readPath 56 = .ok (.aload_n 0, 1) := by decide +kernel
theorem dX3_readPath_57 : decode cX3_readPath 57 = .ok (.aload_n 0, 1) := by decide +kernel
theorem dX3_readPath_58 : decode cX3_readPath 58 = .ok (.getfield 12, 3) := by decide +kernel
theorem dX3_readPath_61 : decode cX3_readPath 61 = .ok (.getfield 130, 3) := by decide +kernel
theorem dX3_readPath_64 : decode cX3_readPath 64 = .ok (.aload_n 0, 1) := by decide +kernel
theorem dX3_readPath_65 : decode cX3_readPath 65 = .ok (.getfield 12, 3) := by decide +kernel
theorem dX3_readPath_68 : decode cX3_readPath 68 = .ok (.getfield 127, 3) := by decide +kernel
theorem dX3_readPath_71 : decode cX3_readPath 71 = .ok (.invokevirtual 117, 3) := by decide +kernel
theorem dX3_readPath_74 : decode cX3_readPath 74 = .ok (.istore_n 2, 1) := by decide +kernel
theorem dX3_readPath_75 : decode cX3_readPath 75 = .ok (.aload_n 0, 1) := by decide +kernel
theorem dX3_readPath_76 : decode cX3_readPath 76 = .ok (.iload_n 2, 1) := by decide +kernel
theorem dX3_readPath_77 : decode cX3_readPath 77 = .ok (.iconst (-1), 1) := by decide +kernel
theorem dX3_readPath_78 : decode cX3_readPath 78 = .ok (.if_icmp .ne 7, 3) := by decide +kernel
theorem dX3_readPath_81 : decode cX3_readPath 81 = .ok (.iconst 1, 1) := by decide +kernel
theorem dX3_readPath_82 : decode cX3_readPath 82 = .ok (.goto 4, 3) := by decide +kernel
theorem dX3_readPath_85 : decode cX3_readPath 85 = .ok (.iconst 0, 1) := by decide +kernel
theorem dX3_readPath_86 : decode cX3_readPath 86 = .ok (.iconst 4, 1) := by decide +kernel
theorem dX3_readPath_87 : decode cX3_readPath 87 = .ok (.invokevirtual 91, 3) := by decide +kernel
theorem dX3_readPath_90 : decode cX3_readPath 90 = .ok (.aload_n 0, 1) := by decide +kernel
theorem dX3_readPath_91 : decode cX3_readPath 91 = .ok (.aload_n 0, 1) := by decide +kernel
theorem dX3_readPath_92 : decode cX3_readPath 92 = .ok (.getfield 12, 3) := by decide +kernel
theorem dX3_readPath_95 : decode cX3_readPath 95 = .ok (.iload_n 1, 1) := by decide +kernel
theorem dX3_readPath_96 : decode cX3_readPath 96 = .ok (.iload_n 2, 1) := by decide +kernel
theorem dX3_readPath_97 : decode cX3_readPath 97 = .ok (.invokevirtual 151, 3) := by decide +kernel
theorem dX3_readPath_100 : decode cX3_readPath 100 = .ok (.iconst (-1), 1) := by decide +kernel
theorem dX3_readPath_101 : decode cX3_readPath 101 = .ok (.if_icmp .eq 7, 3) := by decide +kernel
theorem dX3_readPath_104 : decode cX3_readPath 104 = .ok (.iconst 1, 1) := by decide +kernel
theorem dX3_readPath_105 : decode cX3_readPath 105 = .ok (.goto 4, 3) := by decide +kernel
theorem dX3_readPath_108 : decode cX3_readPath 108 = .ok (.iconst 0, 1) := by decide +kernel
theorem dX3_readPath_109 : decode cX3_readPath 109 = .ok (.iconst 3, 1) := by decide +kernel
theorem dX3_readPath_110 : decode cX3_readPath 110 = .ok (.invokevirtual 91, 3) := by decide +kernel
theorem dX3_readPath_113 : decode cX3_readPath 113 = .ok (.aload_n 0, 1) := by decide +kernel
theorem dX3_readPath_114 : decode cX3_readPath 114 = .ok (.iconst 0, 1) := by decide +kernel
theorem dX3_readPath_115 : decode cX3_readPath 115 = .ok (.sipush 999, 3) := by decide +kernel
theorem dX3_readPath_118 : decode cX3_readPath 118 = .ok (.invokevirtual 95, 3) := by decide +kernel
theorem dX3_readPath_121 : decode cX3_readPath 121 = .ok (.istore_n 3, 1) := by decide +kernel
theorem dX3_readPath_122 : decode cX3_readPath 122 = .ok (.aload_n 0, 1) := by decide +kernel
theorem dX3_readPath_123 : decode cX3_readPath 123 = .ok (.iconst 0, 1) := by decide +kernel
theorem dX3_readPath_124 : decode cX3_readPath 124 = .ok (.iload_n 3, 1) := by decide +kernel
theorem dX3_readPath_125 : decode cX3_readPath 125 = .ok (.invokevirtual 95, 3) := by decide +kernel
theorem dX3_readPath_128 : decode cX3_readPath 128 = .ok (.istore 4, 2) := by decide +kernel
theorem dX3_readPath_130 : decode cX3_readPath 130 = .ok (.aload_n 0, 1) := by decide +kernel
theorem dX3_readPath_131 : decode cX3_readPath 131 = .ok (.invokevirtual 101, 3) := by decide +kernel
theorem dX3_readPath_134 : decode cX3_readPath 134 = .ok (.aload_n 0, 1) := by decide +kernel
theorem dX3_readPath_135 : decode cX3_readPath 135 = .ok (.getfield 41, 3) := by decide +kernel
theorem dX3_readPath_138 : decode cX3_readPath 138 = .ok (.ifCond .ne 70, 3) := by decide +kernel
theorem dX3_readPath_141 : decode cX3_readPath 141 = .ok (.aload_n 0, 1) := by decide +kernel
theorem dX3_readPath_142 : decode cX3_readPath 142 = .ok (.getfield 12, 3) := by decide +kernel
theorem dX3_readPath_145 : decode cX3_readPath 145 = .ok (.getfield 148, 3) := by decide +kernel
theorem dX3_readPath_148 : decode cX3_readPath 148 = .ok (.istore 5, 2) := by decide +kernel
theorem dX3_readPath_150 : decode cX3_readPath 150 = .ok (.aload_n 0, 1) := by decide +kernel
theorem dX3_readPath_151 : decode cX3_readPath 151 = .ok (.getfield 12, 3) := by decide +kernel
theorem dX3_readPath_154 : decode cX3_readPath 154 = .ok (.getfield 154, 3) := by decide +kernel
theorem dX3_readPath_157 : decode cX3_readPath 157 = .ok (.iload 5, 2) := by decide +kernel
theorem dX3_readPath_159 : decode cX3_readPath 159 = .ok (.iload_n 1, 1) := by decide +kernel
theorem dX3_readPath_160 : decode cX3_readPath 160 = .ok (.iastore, 1) := by decide +kernel
theorem dX3_readPath_161 : decode cX3_readPath 161 = .ok (.aload_n 0, 1) := by decide +kernel
theorem dX3_readPath_162 : decode cX3_readPath 162 = .ok (.getfield 12, 3) := by decide +kernel
theorem dX3_readPath_165 : decode cX3_readPath 165 = .ok (.getfield 157, 3) := by decide +kernel
theorem dX3_readPath_168 : decode cX3_readPath 168 = .ok (.iload 5, 2) := by decide +kernel
theorem dX3_readPath_170 : decode cX3_readPath 170 = .ok (.iload_n 2, 1) := by decide +kernel
theorem dX3_readPath_171 : decode cX3_readPath 171 = .ok (.iastore, 1) := by decide +kernel
theorem dX3_readPath_172 : decode cX3_readPath 172 = .ok (.aload_n 0, 1) := by decide +kernel
theorem dX3_readPath_173 : decode cX3_readPath 173 = .ok (.getfield 12, 3) := by decide +kernel
theorem dX3_readPath_176 : decode cX3_readPath 176 = .ok (.getfield 160, 3) := by decide +kernel
theorem dX3_readPath_179 : decode cX3_readPath 179 = .ok (.iload 5, 2) := by decide +kernel
theorem dX3_readPath_181 : decode cX3_readPath 181 = .ok (.iload_n 3, 1) := by decide +kernel
theorem dX3_readPath_182 : decode cX3_readPath 182 = .ok (.iastore, 1) := by decide +kernel
theorem dX3_readPath_183 : decode cX3_readPath 183 = .ok (.aload_n 0, 1) := by decide +kernel
theorem dX3_readPath_184 : decode cX3_readPath 184 = .ok (.getfield 12, 3) := by decide +kernel
theorem dX3_readPath_187 : decode cX3_readPath 187 = .ok (.getfield 163, 3) := by decide +kernel
theorem dX3_readPath_190 : decode cX3_readPath 190 = .ok (.iload 5, 2) := by decide +kernel
theorem dX3_readPath_192 : decode cX3_readPath 192 = .ok (.iload 4, 2) := by decide +kernel
theorem dX3_readPath_194 : decode cX3_readPath 194 = .ok (.iastore, 1) := by decide +kernel
theorem dX3_readPath_195 : decode cX3_readPath 195 = .ok (.aload_n 0, 1) := by decide +kernel
theorem dX3_readPath_196 : decode cX3_readPath 196 = .ok (.getfield 12, 3) := by decide +kernel
theorem dX3_readPath_199 : decode cX3_readPath 199 = .ok (.dup, 1) := by decide +kernel
theorem dX3_readPath_200 : decode cX3_readPath 200 = .ok (.getfield 148, 3) := by decide +kernel
theorem dX3_readPath_203 : decode cX3_readPath 203 = .ok (.iconst 1, 1) := by decide +kernel
theorem dX3_readPath_204 : decode cX3_readPath 204 = .ok (.iadd, 1) := by decide +kernel
theorem dX3_readPath_205 : decode cX3_readPath 205 = .ok (.putfield 148, 3) := by decide +kernel
theorem dX3_readPath_208 : decode cX3_readPath 208 = .ok (.return_, 1) := by decide +kernel
theorem dX3_readNumber_0 : decode cX3_readNumber 0 = .ok (.aload_n 0, 1) := by decide +kernel
theorem dX3_readNumber_1 : decode cX3_readNumber 1 = .ok (.invokevirtual 57, 3) := by decide +kernel
theorem dX3_readNumber_4 : decode cX3_readNumber 4 = .ok (.aload_n 0, 1) := by decide +kernel
theorem dX3_readNumber_5 : decode cX3_readNumber 5 = .ok (.aload_n 0, 1) := by decide +kernel
theorem dX3_readNumber_6 : decode cX3_readNumber 6 = .ok (.getfield 60, 3) := by decide +kernel
theorem dX3_readNumber_9 : decode cX3_readNumber 9 = .ok (.iconst 2, 1) := by decide +kernel
theorem dX3_readNumber_10 : decode cX3_readNumber 10 = .ok (.if_icmp .eq 7, 3) := by decide +kernel
theorem dX3_readNumber_13 : decode cX3_readNumber 13 = .ok (.iconst 1, 1) := by decide +kernel
theorem dX3_readNumber_14 : decode cX3_readNumber 14 = .ok (.goto 4, 3) := by decide +kernel
theorem dX3_readNumber_17 : decode cX3_readNumber 17 = .ok (.iconst 0, 1) := by decide +kernel
theorem dX3_readNumber_18 : decode cX3_readNumber 18 = .ok (.iconst 1, 1) := by decide +kernel
theorem dX3_readNumber_19 : decode cX3_readNumber 19 = .ok (.invokevirtual 91, 3) := by decide +kernel
theorem dX3_readNumber_22 : decode cX3_readNumber 22 = .ok (.aload_n 0, 1) := by decide +kernel
theorem dX3_readNumber_23 : decode cX3_readNumber 23 = .ok (.aload_n 0, 1) := by decide +kernel
theorem dX3_readNumber_24 : decode cX3_readNumber 24 = .ok (.getfield 66, 3) := by decide +kernel
theorem dX3_readNumber_27 : decode cX3_readNumber 27 = .ok (.iload_n 1, 1) := by decide +kernel
theorem dX3_readNumber_28 : decode cX3_readNumber 28 = .ok (.if_icmp .lt 11, 3) := by decide +kernel
theorem dX3_readNumber_31 : decode cX3_readNumber 31 = .ok (.aload_n 0, 1) := by decide +kernel
theorem dX3_readNumber_32 : decode cX3_readNumber 32 = .ok (.getfield 66, 3) := by decide +kernel
theorem dX3_readNumber_35 : decode cX3_readNumber 35 = .ok (.iload_n 2, 1) := by decide +kernel
theorem dX3_readNumber_36 : decode cX3_readNumber 36 = .ok (.if_icmp .le 7, 3) := by decide +kernel
theorem dX3_readNumber_39 : decode cX3_readNumber 39 = .ok (.iconst 1, 1) := by decide +kernel
theorem dX3_readNumber_40 : decode cX3_readNumber 40 = .ok (.goto 4, 3) := by decide +kernel
theorem dX3_readNumber_43 : decode cX3_readNumber 43 = .ok (.iconst 0, 1) := by decide +kernel
theorem dX3_readNumber_44 : decode cX3_readNumber 44 = .ok (.iconst 2, 1) := by decide +kernel
theorem dX3_readNumber_45 : decode cX3_readNumber 45 = .ok (.invokevirtual 91, 3) := by decide +kernel
theorem dX3_readNumber_48 : decode cX3_readNumber 48 = .ok (.aload_n 0, 1) := by decide +kernel
theorem dX3_readNumber_49 : decode cX3_readNumber 49 = .ok (.getfield 66, 3) := by decide +kernel
theorem dX3_readNumber_52 : decode cX3_readNumber 52 = .ok (.ireturn, 1) := by decide +kernel
theorem dX3_readName_0 : decode cX3_readName 0 = .ok (.aload_n 0, 1) := by decide +kernel
theorem dX3_readName_1 : decode cX3_readName 1 = .ok (.invokevirtual 57, 3) := by decide +kernel
theorem dX3_readName_4 : decode cX3_readName 4 = .ok (.aload_n 0, 1) := by decide +kernel
theorem dX3_readName_5 : decode cX3_readName 5 = .ok (.aload_n 0, 1) := by decide +kernel
theorem dX3_readName_6 : decode cX3_readName 6 = .ok (.getfield 60, 3) := by decide +kernel
theorem dX3_readName_9 : decode cX3_readName 9 = .ok (.iconst 1, 1) := by decide +kernel
theorem dX3_readName_10 : decode cX3_readName 10 = .ok (.if_icmp .ne 13, 3) := by decide +kernel
theorem dX3_readName_13 : decode cX3_readName 13 = .ok (.aload_n 0, 1) := by decide +kernel
theorem dX3_readName_14 : decode cX3_readName 14 = .ok (.getfield 66, 3) := by decide +kernel
theorem dX3_readName_17 : decode cX3_readName 17 = .ok (.invokestatic 166, 3) := by decide +kernel
theorem dX3_readName_20 : decode cX3_readName 20 = .ok (.ifCond .eq 7, 3) := by decide +kernel
theorem dX3_readName_23 : decode cX3_readName 23 = .ok (.iconst 1, 1) := by decide +kernel
theorem dX3_readName_24 : decode cX3_readName 24 = .ok (.goto 4, 3) := by decide +kernel
theorem dX3_readName_27 : decode cX3_readName 27 = .ok (.iconst 0, 1) := by decide +kernel
theorem dX3_readName_28 : decode cX3_readName 28 = .ok (.iconst 1, 1) := by decide +kernel
theorem dX3_readName_29 : decode cX3_readName 29 = .ok (.invokevirtual 91, 3) := by decide +kernel
theorem dX3_readName_32 : decode cX3_readName 32 = .ok (.aload_n 1, 1) := by decide +kernel
theorem dX3_readName_33 : decode cX3_readName 33 = .ok (.iload_n 2, 1) := by decide +kernel
theorem dX3_readName_34 : decode cX3_readName 34 = .ok (.aload_n 0, 1) := by decide +kernel
theorem dX3_readName_35 : decode cX3_readName 35 = .ok (.getfield 66, 3) := by decide +kernel
theorem dX3_readName_38 : decode cX3_readName 38 = .ok (.invokestatic 170, 3) := by decide +kernel
theorem dX3_readName_41 : decode cX3_readName 41 = .ok (.ireturn, 1) := by decide +kernel
theorem dX3_readStop_0 : decode cX3_readStop 0 = .ok (.aload_n 0, 1) := by decide +kernel
theorem dX3_readStop_1 : decode cX3_readStop 1 = .ok (.invokevirtual 57, 3) := by decide +kernel
theorem dX3_readStop_4 : decode cX3_readStop 4 = .ok (.aload_n 0, 1) := by decide +kernel
theorem dX3_readStop_5 : decode cX3_readStop 5 = .ok (.aload_n 0, 1) := by decide +kernel
theorem dX3_readStop_6 : decode cX3_readStop 6 = .ok (.getfield 60, 3) := by decide +kernel
theorem dX3_readStop_9 : decode cX3_readStop 9 = .ok (.iconst 3, 1) := by decide +kernel
theorem dX3_readStop_10 : decode cX3_readStop 10 = .ok (.if_icmp .eq 7, 3) := by decide +kernel
theorem dX3_readStop_13 : decode cX3_readStop 13 = .ok (.iconst 1, 1) := by decide +kernel
theorem dX3_readStop_14 : decode cX3_readStop 14 = .ok (.goto 4, 3) := by decide +kernel
theorem dX3_readStop_17 : decode cX3_readStop 17 = .ok (.iconst 0, 1) := by decide +kernel
theorem dX3_readStop_18 : decode cX3_readStop 18 = .ok (.iconst 1, 1) := by decide +kernel
theorem dX3_readStop_19 : decode cX3_readStop 19 = .ok (.invokevirtual 91, 3) := by decide +kernel
theorem dX3_readStop_22 : decode cX3_readStop 22 = .ok (.return_, 1) := by decide +kernel
theorem dX3_isOfLanguage_0 : decode cX3_isOfLanguage 0 = .ok (.iload_n 0, 1) := by decide +kernel
theorem dX3_isOfLanguage_1 : decode cX3_isOfLanguage 1 = .ok (.ldc 174, 2) := by decide +kernel
theorem dX3_isOfLanguage_3 : decode cX3_isOfLanguage 3 = .ok (.if_icmp .eq 39, 3) := by decide +kernel
theorem dX3_isOfLanguage_6 : decode cX3_isOfLanguage 6 = .ok (.iload_n 0, 1) := by decide +kernel
theorem dX3_isOfLanguage_7 : decode cX3_isOfLanguage 7 = .ok (.ldc 175, 2) := by decide +kernel
theorem dX3_isOfLanguage_9 : decode cX3_isOfLanguage 9 = .ok (.if_icmp .eq 33, 3) := by decide +kernel
theorem dX3_isOfLanguage_12 : decode cX3_isOfLanguage 12 = .ok (.iload_n 0, 1) := by decide +kernel
theorem dX3_isOfLanguage_13 : decode cX3_isOfLanguage 13 = .ok (.ldc 176, 2) := by decide +kernel
theorem dX3_isOfLanguage_15 : decode cX3_isOfLanguage 15 = .ok (.if_icmp .eq 27, 3) := by decide +kernel
theorem dX3_isOfLanguage_18 : decode cX3_isOfLanguage 18 = .ok (.iload_n 0, 1) := by decide +kernel
theorem dX3_isOfLanguage_19 : decode cX3_isOfLanguage 19 = .ok (.ldc 177, 2) := by decide +kernel
theorem dX3_isOfLanguage_21 : decode cX3_isOfLanguage 21 = .ok (.if_icmp .eq 21, 3) := by decide +kernel
theorem dX3_isOfLanguage_24 : decode cX3_isOfLanguage 24 = .ok (.iload_n 0, 1) := by decide +kernel
theorem dX3_isOfLanguage_25 : decode cX3_isOfLanguage 25 = .ok (.ldc 178, 2) := by decide +kernel
theorem dX3_isOfLanguage_27 : decode cX3_isOfLanguage 27 = .ok (.if_icmp .eq 15, 3) := by decide +kernel
theorem dX3_isOfLanguage_30 : decode cX3_isOfLanguage 30 = .ok (.iload_n 0, 1) := by decide +kernel
theorem dX3_isOfLanguage_31 : decode cX3_isOfLanguage 31 = .ok (.ldc 179, 2) := by decide +kernel
theorem dX3_isOfLanguage_33 : decode cX3_isOfLanguage 33 = .ok (.if_icmp .eq 9, 3) := by decide +kernel
theorem dX3_isOfLanguage_36 : decode cX3_isOfLanguage 36 = .ok (.iload_n 0, 1) := by decide +kernel
theorem dX3_isOfLanguage_37 : decode cX3_isOfLanguage 37 = .ok (.ldc 180, 2) := by decide +kernel
theorem dX3_isOfLanguage_39 : decode cX3_isOfLanguage 39 = .ok (.if_icmp .ne 7, 3) := by decide +kernel
theorem dX3_isOfLanguage_42 : decode cX3_isOfLanguage 42 = .ok (.iconst 1, 1) := by decide +kernel
theorem dX3_isOfLanguage_43 : decode cX3_isOfLanguage 43 = .ok (.goto 4, 3) := by decide +kernel
theorem dX3_isOfLanguage_46 : decode cX3_isOfLanguage 46 = .ok (.iconst 0, 1) := by decide +kernel
theorem dX3_isOfLanguage_47 : decode cX3_isOfLanguage 47 = .ok (.ireturn, 1) := by decide +kernel
theorem dX3_refuseIf_0 : decode cX3_refuseIf 0 = .ok (.iload_n 1, 1) := by decide +kernel
theorem dX3_refuseIf_1 : decode cX3_refuseIf 1 = .ok (.ifCond .eq 8, 3) := by decide +kernel
theorem dX3_refuseIf_4 : decode cX3_refuseIf 4 = .ok (.aload_n 0, 1) := by decide +kernel
theorem dX3_refuseIf_5 : decode cX3_refuseIf 5 = .ok (.iload_n 2, 1) := by decide +kernel
theorem dX3_refuseIf_6 : decode cX3_refuseIf 6 = .ok (.invokevirtual 88, 3) := by decide +kernel
theorem dX3_refuseIf_9 : decode cX3_refuseIf 9 = .ok (.return_, 1) := by decide +kernel
theorem dX3_refuse_0 : decode cX3_refuse 0 = .ok (.aload_n 0, 1) := by decide +kernel
theorem dX3_refuse_1 : decode cX3_refuse 1 = .ok (.getfield 41, 3) := by decide +kernel
theorem dX3_refuse_4 : decode cX3_refuse 4 = .ok (.ifCond .ne 16, 3) := by decide +kernel
theorem dX3_refuse_7 : decode cX3_refuse 7 = .ok (.aload_n 0, 1) := by decide +kernel
theorem dX3_refuse_8 : decode cX3_refuse 8 = .ok (.iload_n 1, 1) := by decide +kernel
theorem dX3_refuse_9 : decode cX3_refuse 9 = .ok (.putfield 41, 3) := by decide +kernel
theorem dX3_refuse_12 : decode cX3_refuse 12 = .ok (.aload_n 0, 1) := by decide +kernel
theorem dX3_refuse_13 : decode cX3_refuse 13 = .ok (.aload_n 0, 1) := by decide +kernel
theorem dX3_refuse_14 : decode cX3_refuse 14 = .ok (.getfield 181, 3) := by decide +kernel
theorem dX3_refuse_17 : decode cX3_refuse 17 = .ok (.putfield 18, 3) := by decide +kernel
theorem dX3_refuse_20 : decode cX3_refuse 20 = .ok (.return_, 1) := by decide +kernel
theorem dX3_readToken_0 : decode cX3_readToken 0 = .ok (.aload_n 0, 1) := by decide +kernel
theorem dX3_readToken_1 : decode cX3_readToken 1 = .ok (.getfield 35, 3) := by decide +kernel
theorem dX3_readToken_4 : decode cX3_readToken 4 = .ok (.aload_n 0, 1) := by decide +kernel
theorem dX3_readToken_5 : decode cX3_readToken 5 = .ok (.getfield 32, 3) := by decide +kernel
theorem dX3_readToken_8 : decode cX3_readToken 8 = .ok (.if_icmp .ge 44, 3) := by decide +kernel
theorem dX3_readToken_11 : decode cX3_readToken 11 = .ok (.aload_n 0, 1) := by decide +kernel
theorem dX3_readToken_12 : decode cX3_readToken 12 = .ok (.getfield 22, 3) := by decide +kernel
theorem dX3_readToken_15 : decode cX3_readToken 15 = .ok (.aload_n 0, 1) := by decide +kernel
theorem dX3_readToken_16 : decode cX3_readToken 16 = .ok (.getfield 35, 3) := by decide +kernel
theorem dX3_readToken_19 : decode cX3_readToken 19 = .ok (.iaload, 1) := by decide +kernel
theorem dX3_readToken_20 : decode cX3_readToken 20 = .ok (.bipush 32, 2) := by decide +kernel
theorem dX3_readToken_22 : decode cX3_readToken 22 = .ok (.if_icmp .eq 17, 3) := by decide +kernel
theorem dX3_readToken_25 : decode cX3_readToken 25 = .ok (.aload_n 0, 1) := by decide +kernel
theorem dX3_readToken_26 : decode cX3_readToken 26 = .ok (.getfield 22, 3) := by decide +kernel
theorem dX3_readToken_29 : decode cX3_readToken 29 = .ok (.aload_n 0, 1) := by decide +kernel
theorem dX3_readToken_30 : decode cX3_readToken 30 = .ok (.getfield 35, 3) := by decide +kernel
theorem dX3_readToken_33 : decode cX3_readToken 33 = .ok (.iaload, 1) := by decide +kernel
theorem dX3_readToken_34 : decode cX3_readToken 34 = .ok (.bipush 10, 2) := by decide +kernel
theorem dX3_readToken_36 : decode cX3_readToken 36 = .ok (.if_icmp .ne 16, 3) := by decide +kernel
theorem dX3_readToken_39 : decode cX3_readToken 39 = .ok (.aload_n 0, 1) := by decide +kernel
theorem dX3_readToken_40 : decode cX3_readToken 40 = .ok (.dup, 1) := by decide +kernel
theorem dX3_readToken_41 : decode cX3_readToken 41 = .ok (.getfield 35, 3) := by decide +kernel
theorem dX3_readToken_44 : decode cX3_readToken 44 = .ok (.iconst 1, 1) := by decide +kernel
theorem dX3_readToken_45 : decode cX3_readToken 45 = .ok (.iadd, 1) := by decide +kernel
theorem dX3_readToken_46 : decode cX3_readToken 46 = .ok (.putfield 35, 3) := by decide +kernel
theorem dX3_readToken_49 : decode cX3_readToken 49 = .ok (.goto (-49), 3) := by decide +kernel
theorem dX3_readToken_52 : decode cX3_readToken 52 = .ok (.aload_n 0, 1) := by decide +kernel
theorem dX3_readToken_53 : decode cX3_readToken 53 = .ok (.aload_n 0, 1) := by decide +kernel
theorem dX3_readToken_54 : decode cX3_readToken 54 = .ok (.getfield 35, 3) := by decide +kernel
theorem dX3_readToken_57 : decode cX3_readToken 57 = .ok (.putfield 181, 3) := by decide +kernel
theorem dX3_readToken_60 : decode cX3_readToken 60 = .ok (.aload_n 0, 1) := by decide +kernel
theorem dX3_readToken_61 : decode cX3_readToken 61 = .ok (.iconst 0, 1) := by decide +kernel
theorem dX3_readToken_62 : decode cX3_readToken 62 = .ok (.putfield 66, 3) := by decide +kernel
theorem dX3_readToken_65 : decode cX3_readToken 65 = .ok (.aload_n 0, 1) := by decide +kernel
theorem dX3_readToken_66 : decode cX3_readToken 66 = .ok (.getfield 35, 3) := by decide +kernel
theorem dX3_readToken_69 : decode cX3_readToken 69 = .ok (.aload_n 0, 1) := by decide +kernel
theorem dX3_readToken_70 : decode cX3_readToken 70 = .ok (.getfield 32, 3) := by decide +kernel
theorem dX3_readToken_73 : decode cX3_readToken 73 = .ok (.if_icmp .lt 11, 3) := by decide +kernel
theorem dX3_readToken_76 : decode cX3_readToken 76 = .ok (.aload_n 0, 1) := by decide +kernel
theorem dX3_readToken_77 : decode cX3_readToken 77 = .ok (.iconst 0, 1) := by decide +kernel
theorem dX3_readToken_78 : decode cX3_readToken 78 = .ok (.putfield 60, 3) := by decide +kernel
theorem dX3_readToken_81 : decode cX3_readToken 81 = .ok (.goto 80, 3) := by decide +kernel
theorem dX3_readToken_84 : decode cX3_readToken 84 = .ok (.aload_n 0, 1) := by decide +kernel
theorem dX3_readToken_85 : decode cX3_readToken 85 = .ok (.getfield 22, 3) := by decide +kernel
theorem dX3_readToken_88 : decode cX3_readToken 88 = .ok (.aload_n 0, 1) := by decide +kernel
theorem dX3_readToken_89 : decode cX3_readToken 89 = .ok (.getfield 35, 3) := by decide +kernel
theorem dX3_readToken_92 : decode cX3_readToken 92 = .ok (.iaload, 1) := by decide +kernel
theorem dX3_readToken_93 : decode cX3_readToken 93 = .ok (.invokestatic 184, 3) := by decide +kernel
theorem dX3_readToken_96 : decode cX3_readToken 96 = .ok (.ifCond .eq 10, 3) := by decide +kernel
theorem dX3_readToken_99 : decode cX3_readToken 99 = .ok (.aload_n 0, 1) := by decide +kernel
theorem dX3_readToken_100 : decode cX3_readToken 100 = .ok (.invokevirtual 187, 3) := by decide +kernel
theorem dX3_readToken_103 : decode cX3_readToken 103 = .ok (.goto 58, 3) := by decide +kernel
theorem dX3_readToken_106 : decode cX3_readToken 106 = .ok (.aload_n 0, 1) := by decide +kernel
theorem dX3_readToken_107 : decode cX3_readToken 107 = .ok (.getfield 22, 3) := by decide +kernel
theorem dX3_readToken_110 : decode cX3_readToken 110 = .ok (.aload_n 0, 1) := by decide +kernel
theorem dX3_readToken_111 : decode cX3_readToken 111 = .ok (.getfield 35, 3) := by decide +kernel
theorem dX3_readToken_114 : decode cX3_readToken 114 = .ok (.iaload, 1) := by decide +kernel
theorem dX3_readToken_115 : decode cX3_readToken 115 = .ok (.invokestatic 190, 3) := by decide +kernel
theorem dX3_readToken_118 : decode cX3_readToken 118 = .ok (.ifCond .eq 10, 3) := by decide +kernel
theorem dX3_readToken_121 : decode cX3_readToken 121 = .ok (.aload_n 0, 1) := by decide +kernel
theorem dX3_readToken_122 : decode cX3_readToken 122 = .ok (.invokevirtual 193, 3) := by decide +kernel
theorem dX3_readToken_125 : decode cX3_readToken 125 = .ok (.goto 36, 3) := by decide +kernel
theorem dX3_readToken_128 : decode cX3_readToken 128 = .ok (.aload_n 0, 1) := by decide +kernel
theorem dX3_readToken_129 : decode cX3_readToken 129 = .ok (.aload_n 0, 1) := by decide +kernel
theorem dX3_readToken_130 : decode cX3_readToken 130 = .ok (.getfield 22, 3) := by decide +kernel
theorem dX3_readToken_133 : decode cX3_readToken 133 = .ok (.aload_n 0, 1) := by decide +kernel
theorem dX3_readToken_134 : decode cX3_readToken 134 = .ok (.getfield 35, 3) := by decide +kernel
theorem dX3_readToken_137 : decode cX3_readToken 137 = .ok (.iaload, 1) := by decide +kernel
theorem dX3_readToken_138 : decode cX3_readToken 138 = .ok (.bipush 59, 2) := by decide +kernel
theorem dX3_readToken_140 : decode cX3_readToken 140 = .ok (.if_icmp .ne 7, 3) := by decide +kernel
theorem dX3_readToken_143 : decode cX3_readToken 143 = .ok (.iconst 3, 1) := by decide +kernel
theorem dX3_readToken_144 : decode cX3_readToken 144 = .ok (.goto 4, 3) := by decide +kernel
theorem dX3_readToken_147 : decode cX3_readToken 147 = .ok (.iconst 4, 1) := by decide +kernel
theorem dX3_readToken_148 : decode cX3_readToken 148 = .ok (.putfield 60, 3) := by decide +kernel
theorem dX3_readToken_151 : decode cX3_readToken 151 = .ok (.aload_n 0, 1) := by decide +kernel
theorem dX3_readToken_152 : decode cX3_readToken 152 = .ok (.dup, 1) := by decide +kernel
theorem dX3_readToken_153 : decode cX3_readToken 153 = .ok (.getfield 35, 3) := by decide +kernel
theorem dX3_readToken_156 : decode cX3_readToken 156 = .ok (.iconst 1, 1) := by decide +kernel
theorem dX3_readToken_157 : decode cX3_readToken 157 = .ok (.iadd, 1) := by decide +kernel
theorem dX3_readToken_158 : decode cX3_readToken 158 = .ok (.putfield 35, 3) := by decide +kernel
theorem dX3_readToken_161 : decode cX3_readToken 161 = .ok (.return_, 1) := by decide +kernel
theorem dX3_readWord_0 : decode cX3_readWord 0 = .ok (.bipush 30, 2) := by decide +kernel
theorem dX3_readWord_2 : decode cX3_readWord 2 = .ok (.istore_n 1, 1) := by decide +kernel
theorem dX3_readWord_3 : decode cX3_readWord 3 = .ok (.aload_n 0, 1) := by decide +kernel
theorem dX3_readWord_4 : decode cX3_readWord 4 = .ok (.getfield 35, 3) := by decide +kernel
theorem dX3_readWord_7 : decode cX3_readWord 7 = .ok (.aload_n 0, 1) := by decide +kernel
theorem dX3_readWord_8 : decode cX3_readWord 8 = .ok (.getfield 32, 3) := by decide +kernel
theorem dX3_readWord_11 : decode cX3_readWord 11 = .ok (.if_icmp .ge 67, 3) := by decide +kernel
theorem dX3_readWord_14 : decode cX3_readWord 14 = .ok (.aload_n 0, 1) := by decide +kernel
theorem dX3_readWord_15 : decode cX3_readWord 15 = .ok (.getfield 22, 3) := by decide +kernel
theorem dX3_readWord_18 : decode cX3_readWord 18 = .ok (.aload_n 0, 1) := by decide +kernel
theorem dX3_readWord_19 : decode cX3_readWord 19 = .ok (.getfield 35, 3) := by decide +kernel
theorem dX3_readWord_22 : decode cX3_readWord 22 = .ok (.iaload, 1) := by decide +kernel
theorem dX3_readWord_23 : decode cX3_readWord 23 = .ok (.invokestatic 184, 3) := by decide +kernel
theorem dX3_readWord_26 : decode cX3_readWord 26 = .ok (.ifCond .eq 52, 3) := by decide +kernel
theorem dX3_readWord_29 : decode cX3_readWord 29 = .ok (.iinc 1 (-5), 3) := by decide +kernel
theorem dX3_readWord_32 : decode cX3_readWord 32 = .ok (.aload_n 0, 1) := by decide +kernel
theorem dX3_readWord_33 : decode cX3_readWord 33 = .ok (.dup, 1) := by decide +kernel
theorem dX3_readWord_34 : decode cX3_readWord 34 = .ok (.getfield 66, 3) := by decide +kernel
theorem dX3_readWord_37 : decode cX3_readWord 37 = .ok (.iload_n 1, 1) := by decide +kernel
theorem dX3_readWord_38 : decode cX3_readWord 38 = .ok (.ifCond .lt 22, 3) := by decide +kernel
theorem dX3_readWord_41 : decode cX3_readWord 41 = .ok (.aload_n 0, 1) := by decide +kernel
theorem dX3_readWord_42 : decode cX3_readWord 42 = .ok (.getfield 22, 3) := by decide +kernel
theorem dX3_readWord_45 : decode cX3_readWord 45 = .ok (.aload_n 0, 1) := by decide +kernel
theorem dX3_readWord_46 : decode cX3_readWord 46 = .ok (.getfield 35, 3) := by decide +kernel
theorem dX3_readWord_49 : decode cX3_readWord 49 = .ok (.iaload, 1) := by decide +kernel
theorem dX3_readWord_50 : decode cX3_readWord 50 = .ok (.bipush 97, 2) := by decide +kernel
theorem dX3_readWord_52 : decode cX3_readWord 52 = .ok (.isub, 1) := by decide +kernel
theorem dX3_readWord_53 : decode cX3_readWord 53 = .ok (.iconst 1, 1) := by decide +kernel
theorem dX3_readWord_54 : decode cX3_readWord 54 = .ok (.iadd, 1) := by decide +kernel
theorem dX3_readWord_55 : decode cX3_readWord 55 = .ok (.iload_n 1, 1) := by decide +kernel
theorem dX3_readWord_56 : decode cX3_readWord 56 = .ok (.ishl, 1) := by decide +kernel
theorem dX3_readWord_57 : decode cX3_readWord 57 = .ok (.goto 4, 3) := by decide +kernel
theorem dX3_readWord_60 : decode cX3_readWord 60 = .ok (.iconst 0, 1) := by decide +kernel
theorem dX3_readWord_61 : decode cX3_readWord 61 = .ok (.ior, 1) := by decide +kernel
theorem dX3_readWord_62 : decode cX3_readWord 62 = .ok (.putfield 66, 3) := by decide +kernel
theorem dX3_readWord_65 : decode cX3_readWord 65 = .ok (.aload_n 0, 1) := by decide +kernel
theorem dX3_readWord_66 : decode cX3_readWord 66 = .ok (.dup, 1) := by decide +kernel
theorem dX3_readWord_67 : decode cX3_readWord 67 = .ok (.getfield 35, 3) := by decide +kernel
theorem dX3_readWord_70 : decode cX3_readWord 70 = .ok (.iconst 1, 1) := by decide +kernel
theorem dX3_readWord_71 : decode cX3_readWord 71 = .ok (.iadd, 1) := by decide +kernel
theorem dX3_readWord_72 : decode cX3_readWord 72 = .ok (.putfield 35, 3) := by decide +kernel
theorem dX3_readWord_75 : decode cX3_readWord 75 = .ok (.goto (-72), 3) := by decide +kernel
theorem dX3_readWord_78 : decode cX3_readWord 78 = .ok (.aload_n 0, 1) := by decide +kernel
theorem dX3_readWord_79 : decode cX3_readWord 79 = .ok (.iload_n 1, 1) := by decide +kernel
theorem dX3_readWord_80 : decode cX3_readWord 80 = .ok (.ifCond .lt 7, 3) := by decide +kernel
theorem dX3_readWord_83 : decode cX3_readWord 83 = .ok (.iconst 1, 1) := by decide +kernel
theorem dX3_readWord_84 : decode cX3_readWord 84 = .ok (.goto 4, 3) := by decide +kernel
theorem dX3_readWord_87 : decode cX3_readWord 87 = .ok (.iconst 4, 1) := by decide +kernel
theorem dX3_readWord_88 : decode cX3_readWord 88 = .ok (.putfield 60, 3) := by decide +kernel
theorem dX3_readWord_91 : decode cX3_readWord 91 = .ok (.return_, 1) := by decide +kernel
theorem dX3_readDigits_0 : decode cX3_readDigits 0 = .ok (.aload_n 0, 1) := by decide +kernel
theorem dX3_readDigits_1 : decode cX3_readDigits 1 = .ok (.iconst 2, 1) := by decide +kernel
theorem dX3_readDigits_2 : decode cX3_readDigits 2 = .ok (.putfield 60, 3) := by decide +kernel
theorem dX3_readDigits_5 : decode cX3_readDigits 5 = .ok (.aload_n 0, 1) := by decide +kernel
theorem dX3_readDigits_6 : decode cX3_readDigits 6 = .ok (.getfield 35, 3) := by decide +kernel
theorem dX3_readDigits_9 : decode cX3_readDigits 9 = .ok (.aload_n 0, 1) := by decide +kernel
theorem dX3_readDigits_10 : decode cX3_readDigits 10 = .ok (.getfield 32, 3) := by decide +kernel
theorem dX3_readDigits_13 : decode cX3_readDigits 13 = .ok (.if_icmp .ge 60, 3) := by decide +kernel
theorem dX3_readDigits_16 : decode cX3_readDigits 16 = .ok (.aload_n 0, 1) := by decide +kernel
theorem dX3_readDigits_17 : decode cX3_readDigits 17 = .ok (.getfield 22, 3) := by decide +kernel
theorem dX3_readDigits_20 : decode cX3_readDigits 20 = .ok (.aload_n 0, 1) := by decide +kernel
theorem dX3_readDigits_21 : decode cX3_readDigits 21 = .ok (.getfield 35, 3) := by decide +kernel
theorem dX3_readDigits_24 : decode cX3_readDigits 24 = .ok (.iaload, 1) := by decide +kernel
theorem dX3_readDigits_25 : decode cX3_readDigits 25 = .ok (.invokestatic 190, 3) := by decide +kernel
theorem dX3_readDigits_28 : decode cX3_readDigits 28 = .ok (.ifCond .eq 45, 3) := by decide +kernel
theorem dX3_readDigits_31 : decode cX3_readDigits 31 = .ok (.aload_n 0, 1) := by decide +kernel
theorem dX3_readDigits_32 : decode cX3_readDigits 32 = .ok (.bipush 10, 2) := by decide +kernel
theorem dX3_readDigits_34 : decode cX3_readDigits 34 = .ok (.aload_n 0, 1) := by decide +kernel
theorem dX3_readDigits_35 : decode cX3_readDigits 35 = .ok (.getfield 66, 3) := by decide +kernel
theorem dX3_readDigits_38 : decode cX3_readDigits 38 = .ok (.imul, 1) := by decide +kernel
theorem dX3_readDigits_39 : decode cX3_readDigits 39 = .ok (.aload_n 0, 1) := by decide +kernel
theorem dX3_readDigits_40 : decode cX3_readDigits 40 = .ok (.getfield 22, 3) := by decide +kernel
theorem dX3_readDigits_43 : decode cX3_readDigits 43 = .ok (.aload_n 0, 1) := by decide +kernel
theorem dX3_readDigits_44 : decode cX3_readDigits 44 = .ok (.getfield 35, 3) := by decide +kernel
theorem dX3_readDigits_47 : decode cX3_readDigits 47 = .ok (.iaload, 1) := by decide +kernel
theorem dX3_readDigits_48 : decode cX3_readDigits 48 = .ok (.iadd, 1) := by decide +kernel
theorem dX3_readDigits_49 : decode cX3_readDigits 49 = .ok (.bipush 48, 2) := by decide +kernel
theorem dX3_readDigits_51 : decode cX3_readDigits 51 = .ok (.isub, 1) := by decide +kernel
theorem dX3_readDigits_52 : decode cX3_readDigits 52 = .ok (.ldc 196, 2) := by decide +kernel
theorem dX3_readDigits_54 : decode cX3_readDigits 54 = .ok (.invokestatic 26, 3) := by decide +kernel
theorem dX3_readDigits_57 : decode cX3_readDigits 57 = .ok (.putfield 66, 3) := by decide +kernel
theorem dX3_readDigits_60 : decode cX3_readDigits 60 = .ok (.aload_n 0, 1) := by decide +kernel
theorem dX3_readDigits_61 : decode cX3_readDigits 61 = .ok (.dup, 1) := by decide +kernel
theorem dX3_readDigits_62 : decode cX3_readDigits 62 = .ok (.getfield 35, 3) := by decide +kernel
theorem dX3_readDigits_65 : decode cX3_readDigits 65 = .ok (.iconst 1, 1) := by decide +kernel
theorem dX3_readDigits_66 : decode cX3_readDigits 66 = .ok (.iadd, 1) := by decide +kernel
theorem dX3_readDigits_67 : decode cX3_readDigits 67 = .ok (.putfield 35, 3) := by decide +kernel
theorem dX3_readDigits_70 : decode cX3_readDigits 70 = .ok (.goto (-65), 3) := by decide +kernel
theorem dX3_readDigits_73 : decode cX3_readDigits 73 = .ok (.return_, 1) := by decide +kernel
theorem dX3_isLetter_0 : decode cX3_isLetter 0 = .ok (.iload_n 0, 1) := by decide +kernel
theorem dX3_isLetter_1 : decode cX3_isLetter 1 = .ok (.bipush 97, 2) := by decide +kernel
theorem dX3_isLetter_3 : decode cX3_isLetter 3 = .ok (.if_icmp .lt 13, 3) := by decide +kernel
theorem dX3_isLetter_6 : decode cX3_isLetter 6 = .ok (.iload_n 0, 1) := by decide +kernel
theorem dX3_isLetter_7 : decode cX3_isLetter 7 = .ok (.bipush 122, 2) := by decide +kernel
theorem dX3_isLetter_9 : decode cX3_isLetter 9 = .ok (.if_icmp .gt 7, 3) := by decide +kernel
theorem dX3_isLetter_12 : decode cX3_isLetter 12 = .ok (.iconst 1, 1) := by decide +kernel
theorem dX3_isLetter_13 : decode cX3_isLetter 13 = .ok (.goto 4, 3) := by decide +kernel
theorem dX3_isLetter_16 : decode cX3_isLetter 16 = .ok (.iconst 0, 1) := by decide +kernel
theorem dX3_isLetter_17 : decode cX3_isLetter 17 = .ok (.ireturn, 1) := by decide +kernel
theorem dX3_isDigit_0 : decode cX3_isDigit 0 = .ok (.iload_n 0, 1) := by decide +kernel
theorem dX3_isDigit_1 : decode cX3_isDigit 1 = .ok (.bipush 48, 2) := by decide +kernel
theorem dX3_isDigit_3 : decode cX3_isDigit 3 = .ok (.if_icmp .lt 13, 3) := by decide +kernel
theorem dX3_isDigit_6 : decode cX3_isDigit 6 = .ok (.iload_n 0, 1) := by decide +kernel
theorem dX3_isDigit_7 : decode cX3_isDigit 7 = .ok (.bipush 57, 2) := by decide +kernel
theorem dX3_isDigit_9 : decode cX3_isDigit 9 = .ok (.if_icmp .gt 7, 3) := by decide +kernel
theorem dX3_isDigit_12 : decode cX3_isDigit 12 = .ok (.iconst 1, 1) := by decide +kernel
theorem dX3_isDigit_13 : decode cX3_isDigit 13 = .ok (.goto 4, 3) := by decide +kernel
theorem dX3_isDigit_16 : decode cX3_isDigit 16 = .ok (.iconst 0, 1) := by decide +kernel
theorem dX3_isDigit_17 : decode cX3_isDigit 17 = .ok (.ireturn, 1) := by decide +kernel
theorem dX4_init_0 : decode cX4_init 0 = .ok (.aload_n 0, 1) := by decide +kernel
theorem dX4_init_1 : decode cX4_init 1 = .ok (.invokespecial 3, 3) := by decide +kernel
theorem dX4_init_4 : decode cX4_init 4 = .ok (.aload_n 0, 1) := by decide +kernel
theorem dX4_init_5 : decode cX4_init 5 = .ok (.bipush 24, 2) := by decide +kernel
theorem dX4_init_7 : decode cX4_init 7 = .ok (.newarray .int, 2) := by decide +kernel
theorem dX4_init_9 : decode cX4_init 9 = .ok (.putfield 9, 3) := by decide +kernel
theorem dX4_init_12 : decode cX4_init 12 = .ok (.aload_n 0, 1) := by decide +kernel
theorem dX4_init_13 : decode cX4_init 13 = .ok (.iconst 4, 1) := by decide +kernel
theorem dX4_init_14 : decode cX4_init 14 = .ok (.newarray .int, 2) := by decide +kernel
theorem dX4_init_16 : decode cX4_init 16 = .ok (.putfield 15, 3) := by decide +kernel
theorem dX4_init_19 : decode cX4_init 19 = .ok (.aload_n 0, 1) := by decide +kernel
theorem dX4_init_20 : decode cX4_init 20 = .ok (.aload_n 1, 1) := by decide +kernel
theorem dX4_init_21 : decode cX4_init 21 = .ok (.putfield 18, 3) := by decide +kernel
theorem dX4_init_24 : decode cX4_init 24 = .ok (.aload_n 0, 1) := by decide +kernel
theorem dX4_init_25 : decode cX4_init 25 = .ok (.aload_n 2, 1) := by decide +kernel
theorem dX4_init_26 : decode cX4_init 26 = .ok (.putfield 22, 3) := by decide +kernel
theorem dX4_init_29 : decode cX4_init 29 = .ok (.aload_n 0, 1) := by decide +kernel
theorem dX4_init_30 : decode cX4_init 30 = .ok (.new 26, 3) := by decide +kernel
theorem dX4_init_33 : decode cX4_init 33 = .ok (.dup, 1) := by decide +kernel
theorem dX4_init_34 : decode cX4_init 34 = .ok (.aload_n 1, 1) := by decide +kernel
theorem dX4_init_35 : decode cX4_init 35 = .ok (.invokespecial 28, 3) := by decide +kernel
theorem dX4_init_38 : decode cX4_init 38 = .ok (.putfield 31, 3) := by decide +kernel
theorem dX4_init_41 : decode cX4_init 41 = .ok (.return_, 1) := by decide +kernel
theorem dX4_shortestPeriod_0 : decode cX4_shortestPeriod 0 = .ok (.aload_n 0, 1) := by decide +kernel
theorem dX4_shortestPeriod_1 : decode cX4_shortestPeriod 1 = .ok (.getfield 31, 3) := by decide +kernel
theorem dX4_shortestPeriod_4 : decode cX4_shortestPeriod 4 = .ok (.invokevirtual 35, 3) := by decide +kernel
theorem dX4_shortestPeriod_7 : decode cX4_shortestPeriod 7 = .ok (.aload_n 0, 1) := by decide +kernel
theorem dX4_shortestPeriod_8 : decode cX4_shortestPeriod 8 = .ok (.getfield 31, 3) := by decide +kernel
theorem dX4_shortestPeriod_11 : decode cX4_shortestPeriod 11 = .ok (.iconst 1, 1) := by decide +kernel
theorem dX4_shortestPeriod_12 : decode cX4_shortestPeriod 12 = .ok (.sipush 9999, 3) := by decide +kernel
theorem dX4_shortestPeriod_15 : decode cX4_shortestPeriod 15 = .ok (.invokevirtual 38, 3) := by decide +kernel
theorem dX4_shortestPeriod_18 : decode cX4_shortestPeriod 18 = .ok (.ireturn, 1) := by decide +kernel
theorem dX4_slowestDelay_0 : decode cX4_slowestDelay 0 = .ok (.aload_n 0, 1) := by decide +kernel
theorem dX4_slowestDelay_1 : decode cX4_slowestDelay 1 = .ok (.getfield 18, 3) := by decide +kernel
theorem dX4_slowestDelay_4 : decode cX4_slowestDelay 4 = .ok (.getfield 42, 3) := by decide +kernel
theorem dX4_slowestDelay_7 : decode cX4_slowestDelay 7 = .ok (.iload_n 1, 1) := by decide +kernel
theorem dX4_slowestDelay_8 : decode cX4_slowestDelay 8 = .ok (.iaload, 1) := by decide +kernel
theorem dX4_slowestDelay_9 : decode cX4_slowestDelay 9 = .ok (.istore_n 2, 1) := by decide +kernel
theorem dX4_slowestDelay_10 : decode cX4_slowestDelay 10 = .ok (.bipush (-2), 2) := by decide +kernel
theorem dX4_slowestDelay_12 : decode cX4_slowestDelay 12 = .ok (.istore_n 3, 1) := by decide +kernel
theorem dX4_slowestDelay_13 : decode cX4_slowestDelay 13 = .ok (.sipush 999, 3) := by decide +kernel
theorem dX4_slowestDelay_16 : decode cX4_slowestDelay 16 = .ok (.istore 4, 2) := by decide +kernel
theorem dX4_slowestDelay_18 : decode cX4_slowestDelay 18 = .ok (.iconst 0, 1) := by decide +kernel
theorem dX4_slowestDelay_19 : decode cX4_slowestDelay 19 = .ok (.istore 5, 2) := by decide +kernel
theorem dX4_slowestDelay_21 : decode cX4_slowestDelay 21 = .ok (.iload 5, 2) := by decide +kernel
theorem dX4_slowestDelay_23 : decode cX4_slowestDelay 23 = .ok (.sipush 999, 3) := by decide +kernel
theorem dX4_slowestDelay_26 : decode cX4_slowestDelay 26 = .ok (.if_icmp .gt 106, 3) := by decide +kernel
theorem dX4_slowestDelay_29 : decode cX4_slowestDelay 29 = .ok (.iload 4, 2) := by decide +kernel
theorem dX4_slowestDelay_31 : decode cX4_slowestDelay 31 = .ok (.aload_n 0, 1) := by decide +kernel
theorem dX4_slowestDelay_32 : decode cX4_slowestDelay 32 = .ok (.getfield 18, 3) := by decide +kernel
theorem dX4_slowestDelay_35 : decode cX4_slowestDelay 35 = .ok (.getfield 47, 3) := by decide +kernel
theorem dX4_slowestDelay_38 : decode cX4_slowestDelay 38 = .ok (.iload_n 1, 1) := by decide +kernel
theorem dX4_slowestDelay_39 : decode cX4_slowestDelay 39 = .ok (.iaload, 1) := by decide +kernel
theorem dX4_slowestDelay_40 : decode cX4_slowestDelay 40 = .ok (.if_icmp .lt 92, 3) := by decide +kernel
theorem dX4_slowestDelay_43 : decode cX4_slowestDelay 43 = .ok (.aload_n 0, 1) := by decide +kernel
theorem dX4_slowestDelay_44 : decode cX4_slowestDelay 44 = .ok (.getfield 18, 3) := by decide +kernel
theorem dX4_slowestDelay_47 : decode cX4_slowestDelay 47 = .ok (.getfield 42, 3) := by decide +kernel
theorem dX4_slowestDelay_50 : decode cX4_slowestDelay 50 = .ok (.iload_n 1, 1) := by decide +kernel
theorem dX4_slowestDelay_51 : decode cX4_slowestDelay 51 = .ok (.iload 4, 2) := by decide +kernel
theorem dX4_slowestDelay_53 : decode cX4_slowestDelay 53 = .ok (.iastore, 1) := by decide +kernel
theorem dX4_slowestDelay_54 : decode cX4_slowestDelay 54 = .ok (.aload_n 0, 1) := by decide +kernel
theorem dX4_slowestDelay_55 : decode cX4_slowestDelay 55 = .ok (.getfield 31, 3) := by decide +kernel
theorem dX4_slowestDelay_58 : decode cX4_slowestDelay 58 = .ok (.invokevirtual 35, 3) := by decide +kernel
theorem dX4_slowestDelay_61 : decode cX4_slowestDelay 61 = .ok (.aload_n 0, 1) := by decide +kernel
theorem dX4_slowestDelay_62 : decode cX4_slowestDelay 62 = .ok (.getfield 31, 3) := by decide +kernel
theorem dX4_slowestDelay_65 : decode cX4_slowestDelay 65 = .ok (.aload_n 0, 1) := by decide +kernel
theorem dX4_slowestDelay_66 : decode cX4_slowestDelay 66 = .ok (.getfield 18, 3) := by decide +kernel
theorem dX4_slowestDelay_69 : decode cX4_slowestDelay 69 = .ok (.getfield 50, 3) := by decide +kernel
theorem dX4_slowestDelay_72 : decode cX4_slowestDelay 72 = .ok (.invokevirtual 54, 3) := by decide +kernel
theorem dX4_slowestDelay_75 : decode cX4_slowestDelay 75 = .ok (.ifCond .eq 9, 3) := by decide +kernel
theorem dX4_slowestDelay_78 : decode cX4_slowestDelay 78 = .ok (.iload 4, 2) := by decide +kernel
theorem dX4_slowestDelay_80 : decode cX4_slowestDelay 80 = .ok (.istore_n 3, 1) := by decide +kernel
theorem dX4_slowestDelay_81 : decode cX4_slowestDelay 81 = .ok (.goto 51, 3) := by decide +kernel
theorem dX4_slowestDelay_84 : decode cX4_slowestDelay 84 = .ok (.aload_n 0, 1) := by decide +kernel
theorem dX4_slowestDelay_85 : decode cX4_slowestDelay 85 = .ok (.getfield 31, 3) := by decide +kernel
theorem dX4_slowestDelay_88 : decode cX4_slowestDelay 88 = .ok (.iload_n 1, 1) := by decide +kernel
theorem dX4_slowestDelay_89 : decode cX4_slowestDelay 89 = .ok (.invokevirtual 58, 3) := by decide +kernel
theorem dX4_slowestDelay_92 : decode cX4_slowestDelay 92 = .ok (.ifCond .ne 6, 3) := by decide +kernel
theorem dX4_slowestDelay_95 : decode cX4_slowestDelay 95 = .ok (.goto 37, 3) := by decide +kernel
theorem dX4_slowestDelay_98 : decode cX4_slowestDelay 98 = .ok (.iload 4, 2) := by decide +kernel
theorem dX4_slowestDelay_100 : decode cX4_slowestDelay 100 = .ok (.iconst 1, 1) := by decide +kernel
theorem dX4_slowestDelay_101 : decode cX4_slowestDelay 101 = .ok (.aload_n 0, 1) := by decide +kernel
theorem dX4_slowestDelay_102 : decode cX4_slowestDelay 102 = .ok (.getfield 31, 3) := by decide +kernel
theorem dX4_slowestDelay_105 : decode cX4_slowestDelay 105 = .ok (.aload_n 0, 1) := by decide +kernel
theorem dX4_slowestDelay_106 : decode cX4_slowestDelay 106 = .ok (.getfield 18, 3) := by decide +kernel
theorem dX4_slowestDelay_109 : decode cX4_slowestDelay 109 = .ok (.getfield 50, 3) := by decide +kernel
theorem dX4_slowestDelay_112 : decode cX4_slowestDelay 112 = .ok (.invokevirtual 61, 3) := by decide +kernel
theorem dX4_slowestDelay_115 : decode cX4_slowestDelay 115 = .ok (.bipush 64, 2) := by decide +kernel
theorem dX4_slowestDelay_117 : decode cX4_slowestDelay 117 = .ok (.invokestatic 65, 3) := by decide +kernel
theorem dX4_slowestDelay_120 : decode cX4_slowestDelay 120 = .ok (.invokestatic 68, 3) := by decide +kernel
theorem dX4_slowestDelay_123 : decode cX4_slowestDelay 123 = .ok (.isub, 1) := by decide +kernel
theorem dX4_slowestDelay_124 : decode cX4_slowestDelay 124 = .ok (.istore 4, 2) := by decide +kernel
theorem dX4_slowestDelay_126 : decode cX4_slowestDelay 126 = .ok (.iinc 5 1, 3) := by decide +kernel
theorem dX4_slowestDelay_129 : decode cX4_slowestDelay 129 = .ok (.goto (-108), 3) := by decide +kernel
theorem dX4_slowestDelay_132 : decode cX4_slowestDelay 132 = .ok (.aload_n 0, 1) := by decide +kernel
theorem dX4_slowestDelay_133 : decode cX4_slowestDelay 133 = .ok (.getfield 18, 3) := by decide +kernel
theorem dX4_slowestDelay_136 : decode cX4_slowestDelay 136 = .ok (.getfield 42, 3) := by decide +kernel
theorem dX4_slowestDelay_139 : decode cX4_slowestDelay 139 = .ok (.iload_n 1, 1) := by decide +kernel
theorem dX4_slowestDelay_140 : decode cX4_slowestDelay 140 = .ok (.iload_n 2, 1) := by decide +kernel
theorem dX4_slowestDelay_141 : decode cX4_slowestDelay 141 = .ok (.iastore, 1) := by decide +kernel
theorem dX4_slowestDelay_142 : decode cX4_slowestDelay 142 = .ok (.iload_n 3, 1) := by decide +kernel
theorem dX4_slowestDelay_143 : decode cX4_slowestDelay 143 = .ok (.ireturn, 1) := by decide +kernel
theorem dX4_gainOf_0 : decode cX4_gainOf 0 = .ok (.aload_n 0, 1) := by decide +kernel
theorem dX4_gainOf_1 : decode cX4_gainOf 1 = .ok (.invokevirtual 73, 3) := by decide +kernel
theorem dX4_gainOf_4 : decode cX4_gainOf 4 = .ok (.istore_n 2, 1) := by decide +kernel
theorem dX4_gainOf_5 : decode cX4_gainOf 5 = .ok (.iload_n 2, 1) := by decide +kernel
theorem dX4_gainOf_6 : decode cX4_gainOf 6 = .ok (.iconst (-1), 1) := by decide +kernel
theorem dX4_gainOf_7 : decode cX4_gainOf 7 = .ok (.if_icmp .ne 6, 3) := by decide +kernel
theorem dX4_gainOf_10 : decode cX4_gainOf 10 = .ok (.bipush (-2), 2) := by decide +kernel
theorem dX4_gainOf_12 : decode cX4_gainOf 12 = .ok (.ireturn, 1) := by decide +kernel
theorem dX4_gainOf_13 : decode cX4_gainOf 13 = .ok (.aload_n 0, 1) := by decide +kernel
theorem dX4_gainOf_14 : decode cX4_gainOf 14 = .ok (.getfield 18, 3) := by decide +kernel
theorem dX4_gainOf_17 : decode cX4_gainOf 17 = .ok (.getfield 42, 3) := by decide +kernel
theorem dX4_gainOf_20 : decode cX4_gainOf 20 = .ok (.iload_n 1, 1) := by decide +kernel
theorem dX4_gainOf_21 : decode cX4_gainOf 21 = .ok (.iaload, 1) := by decide +kernel
theorem dX4_gainOf_22 : decode cX4_gainOf 22 = .ok (.istore_n 3, 1) := by decide +kernel
theorem dX4_gainOf_23 : decode cX4_gainOf 23 = .ok (.aload_n 0, 1) := by decide +kernel
theorem dX4_gainOf_24 : decode cX4_gainOf 24 = .ok (.getfield 18, 3) := by decide +kernel
theorem dX4_gainOf_27 : decode cX4_gainOf 27 = .ok (.getfield 42, 3) := by decide +kernel
theorem dX4_gainOf_30 : decode cX4_gainOf 30 = .ok (.iload_n 1, 1) := by decide +kernel
theorem dX4_gainOf_31 : decode cX4_gainOf 31 = .ok (.aload_n 0, 1) := by decide +kernel
theorem dX4_gainOf_32 : decode cX4_gainOf 32 = .ok (.getfield 18, 3) := by decide +kernel
theorem dX4_gainOf_35 : decode cX4_gainOf 35 = .ok (.getfield 47, 3) := by decide +kernel
theorem dX4_gainOf_38 : decode cX4_gainOf 38 = .ok (.iload_n 1, 1) := by decide +kernel
theorem dX4_gainOf_39 : decode cX4_gainOf 39 = .ok (.iaload, 1) := by decide +kernel
theorem dX4_gainOf_40 : decode cX4_gainOf 40 = .ok (.iastore, 1) := by decide +kernel
theorem dX4_gainOf_41 : decode cX4_gainOf 41 = .ok (.aload_n 0, 1) := by decide +kernel
theorem dX4_gainOf_42 : decode cX4_gainOf 42 = .ok (.invokevirtual 73, 3) := by decide +kernel
theorem dX4_gainOf_45 : decode cX4_gainOf 45 = .ok (.istore 4, 2) := by decide +kernel
theorem dX4_gainOf_47 : decode cX4_gainOf 47 = .ok (.aload_n 0, 1) := by decide +kernel
theorem dX4_gainOf_48 : decode cX4_gainOf 48 = .ok (.getfield 18, 3) := by decide +kernel
theorem dX4_gainOf_51 : decode cX4_gainOf 51 = .ok (.getfield 42, 3) := by decide +kernel
theorem dX4_gainOf_54 : decode cX4_gainOf 54 = .ok (.iload_n 1, 1) := by decide +kernel
theorem dX4_gainOf_55 : decode cX4_gainOf 55 = .ok (.iload_n 3, 1) := by decide +kernel
theorem dX4_gainOf_56 : decode cX4_gainOf 56 = .ok (.iastore, 1) := by decide +kernel
theorem dX4_gainOf_57 : decode cX4_gainOf 57 = .ok (.iload_n 2, 1) := by decide +kernel
theorem dX4_gainOf_58 : decode cX4_gainOf 58 = .ok (.iload 4, 2) := by decide +kernel
theorem dX4_gainOf_60 : decode cX4_gainOf 60 = .ok (.isub, 1) := by decide +kernel
theorem dX4_gainOf_61 : decode cX4_gainOf 61 = .ok (.ireturn, 1) := by decide +kernel
theorem dX4_bestOpening_0 : decode cX4_bestOpening 0 = .ok (.aload_n 0, 1) := by decide +kernel
theorem dX4_bestOpening_1 : decode cX4_bestOpening 1 = .ok (.invokevirtual 77, 3) := by decide +kernel
theorem dX4_bestOpening_4 : decode cX4_bestOpening 4 = .ok (.istore_n 3, 1) := by decide +kernel
theorem dX4_bestOpening_5 : decode cX4_bestOpening 5 = .ok (.iload_n 3, 1) := by decide +kernel
theorem dX4_bestOpening_6 : decode cX4_bestOpening 6 = .ok (.iconst (-1), 1) := by decide +kernel
theorem dX4_bestOpening_7 : decode cX4_bestOpening 7 = .ok (.if_icmp .ne 6, 3) := by decide +kernel
theorem dX4_bestOpening_10 : decode cX4_bestOpening 10 = .ok (.bipush (-2), 2) := by decide +kernel
theorem dX4_bestOpening_12 : decode cX4_bestOpening 12 = .ok (.ireturn, 1) := by decide +kernel
theorem dX4_bestOpening_13 : decode cX4_bestOpening 13 = .ok (.aload_n 0, 1) := by decide +kernel
theorem dX4_bestOpening_14 : decode cX4_bestOpening 14 = .ok (.getfield 18, 3) := by decide +kernel
theorem dX4_bestOpening_17 : decode cX4_bestOpening 17 = .ok (.getfield 80, 3) := by decide +kernel
theorem dX4_bestOpening_20 : decode cX4_bestOpening 20 = .ok (.iconst 0, 1) := by decide +kernel
theorem dX4_bestOpening_21 : decode cX4_bestOpening 21 = .ok (.aload_n 0, 1) := by decide +kernel
theorem dX4_bestOpening_22 : decode cX4_bestOpening 22 = .ok (.getfield 15, 3) := by decide +kernel
theorem dX4_bestOpening_25 : decode cX4_bestOpening 25 = .ok (.iconst 0, 1) := by decide +kernel
theorem dX4_bestOpening_26 : decode cX4_bestOpening 26 = .ok (.iconst 4, 1) := by decide +kernel
theorem dX4_bestOpening_27 : decode cX4_bestOpening 27 = .ok (.invokestatic 83, 3) := by decide +kernel
theorem dX4_bestOpening_30 : decode cX4_bestOpening 30 = .ok (.aload_n 0, 1) := by decide +kernel
theorem dX4_bestOpening_31 : decode cX4_bestOpening 31 = .ok (.getfield 31, 3) := by decide +kernel
theorem dX4_bestOpening_34 : decode cX4_bestOpening 34 = .ok (.invokevirtual 89, 3) := by decide +kernel
theorem dX4_bestOpening_37 : decode cX4_bestOpening 37 = .ok (.iload_n 2, 1) := by decide +kernel
theorem dX4_bestOpening_38 : decode cX4_bestOpening 38 = .ok (.iconst (-1), 1) := by decide +kernel
theorem dX4_bestOpening_39 : decode cX4_bestOpening 39 = .ok (.if_icmp .ne 7, 3) := by decide +kernel
theorem dX4_bestOpening_42 : decode cX4_bestOpening 42 = .ok (.iconst 1, 1) := by decide +kernel
theorem dX4_bestOpening_43 : decode cX4_bestOpening 43 = .ok (.goto 5, 3) := by decide +kernel
theorem dX4_bestOpening_46 : decode cX4_bestOpening 46 = .ok (.bipush 64, 2) := by decide +kernel
theorem dX4_bestOpening_48 : decode cX4_bestOpening 48 = .ok (.istore 4, 2) := by decide +kernel
theorem dX4_bestOpening_50 : decode cX4_bestOpening 50 = .ok (.bipush (-2), 2) := by decide +kernel
theorem dX4_bestOpening_52 : decode cX4_bestOpening 52 = .ok (.istore 5, 2) := by decide +kernel
theorem dX4_bestOpening_54 : decode cX4_bestOpening 54 = .ok (.sipush 9999, 3) := by decide +kernel
theorem dX4_bestOpening_57 : decode cX4_bestOpening 57 = .ok (.istore 6, 2) := by decide +kernel
theorem dX4_bestOpening_59 : decode cX4_bestOpening 59 = .ok (.iconst 0, 1) := by decide +kernel
theorem dX4_bestOpening_60 : decode cX4_bestOpening 60 = .ok (.istore 7, 2) := by decide +kernel
theorem dX4_bestOpening_62 : decode cX4_bestOpening 62 = .ok (.iload 7, 2) := by decide +kernel
theorem dX4_bestOpening_64 : decode cX4_bestOpening 64 = .ok (.bipush 64, 2) := by decide +kernel
theorem dX4_bestOpening_66 : decode cX4_bestOpening 66 = .ok (.iload 4, 2) := by decide +kernel
theorem dX4_bestOpening_68 : decode cX4_bestOpening 68 = .ok (.imul, 1) := by decide +kernel
theorem dX4_bestOpening_69 : decode cX4_bestOpening 69 = .ok (.if_icmp .ge 75, 3) := by decide +kernel
theorem dX4_bestOpening_72 : decode cX4_bestOpening 72 = .ok (.iload 6, 2) := by decide +kernel
theorem dX4_bestOpening_74 : decode cX4_bestOpening 74 = .ok (.iload_n 3, 1) := by decide +kernel
theorem dX4_bestOpening_75 : decode cX4_bestOpening 75 = .ok (.if_icmp .lt 69, 3) := by decide +kernel
theorem dX4_bestOpening_78 : decode cX4_bestOpening 78 = .ok (.aload_n 0, 1) := by decide +kernel
theorem dX4_bestOpening_79 : decode cX4_bestOpening 79 = .ok (.getfield 18, 3) := by decide +kernel
theorem dX4_bestOpening_82 : decode cX4_bestOpening 82 = .ok (.getfield 80, 3) := by decide +kernel
theorem dX4_bestOpening_85 : decode cX4_bestOpening 85 = .ok (.iload_n 1, 1) := by decide +kernel
theorem dX4_bestOpening_86 : decode cX4_bestOpening 86 = .ok (.iload 7, 2) := by decide +kernel
theorem dX4_bestOpening_88 : decode cX4_bestOpening 88 = .ok (.iload 4, 2) := by decide +kernel
theorem dX4_bestOpening_90 : decode cX4_bestOpening 90 = .ok (.idiv, 1) := by decide +kernel
theorem dX4_bestOpening_91 : decode cX4_bestOpening 91 = .ok (.iastore, 1) := by decide +kernel
theorem dX4_bestOpening_92 : decode cX4_bestOpening 92 = .ok (.iload_n 2, 1) := by decide +kernel
theorem dX4_bestOpening_93 : decode cX4_bestOpening 93 = .ok (.iconst (-1), 1) := by decide +kernel
theorem dX4_bestOpening_94 : decode cX4_bestOpening 94 = .ok (.if_icmp .eq 17, 3) := by decide +kernel
theorem dX4_bestOpening_97 : decode cX4_bestOpening 97 = .ok (.aload_n 0, 1) := by decide +kernel
theorem dX4_bestOpening_98 : decode cX4_bestOpening 98 = .ok (.getfield 18, 3) := by decide +kernel
theorem dX4_bestOpening_101 : decode cX4_bestOpening 101 = .ok (.getfield 80, 3) := by decide +kernel
theorem dX4_bestOpening_104 : decode cX4_bestOpening 104 = .ok (.iload_n 2, 1) := by decide +kernel
theorem dX4_bestOpening_105 : decode cX4_bestOpening 105 = .ok (.iload 7, 2) := by decide +kernel
theorem dX4_bestOpening_107 : decode cX4_bestOpening 107 = .ok (.iload 4, 2) := by decide +kernel
theorem dX4_bestOpening_109 : decode cX4_bestOpening 109 = .ok (.irem, 1) := by decide +kernel
theorem dX4_bestOpening_110 : decode cX4_bestOpening 110 = .ok (.iastore, 1) := by decide +kernel
theorem dX4_bestOpening_111 : decode cX4_bestOpening 111 = .ok (.aload_n 0, 1) := by decide +kernel
theorem dX4_bestOpening_112 : decode cX4_bestOpening 112 = .ok (.iload 6, 2) := by decide +kernel
theorem dX4_bestOpening_114 : decode cX4_bestOpening 114 = .ok (.invokevirtual 92, 3) := by decide +kernel
theorem dX4_bestOpening_117 : decode cX4_bestOpening 117 = .ok (.ifCond .eq 21, 3) := by decide +kernel
theorem dX4_bestOpening_120 : decode cX4_bestOpening 120 = .ok (.iload 7, 2) := by decide +kernel
theorem dX4_bestOpening_122 : decode cX4_bestOpening 122 = .ok (.istore 5, 2) := by decide +kernel
theorem dX4_bestOpening_124 : decode cX4_bestOpening 124 = .ok (.aload_n 0, 1) := by decide +kernel
theorem dX4_bestOpening_125 : decode cX4_bestOpening 125 = .ok (.getfield 31, 3) := by decide +kernel
theorem dX4_bestOpening_128 : decode cX4_bestOpening 128 = .ok (.iload_n 3, 1) := by decide +kernel
theorem dX4_bestOpening_129 : decode cX4_bestOpening 129 = .ok (.iload 6, 2) := by decide +kernel
theorem dX4_bestOpening_131 : decode cX4_bestOpening 131 = .ok (.invokevirtual 38, 3) := by decide +kernel
theorem dX4_bestOpening_134 : decode cX4_bestOpening 134 = .ok (.iconst 1, 1) := by decide +kernel
theorem dX4_bestOpening_135 : decode cX4_bestOpening 135 = .ok (.isub, 1) := by decide +kernel
theorem dX4_bestOpening_136 : decode cX4_bestOpening 136 = .ok (.istore 6, 2) := by decide +kernel
theorem dX4_bestOpening_138 : decode cX4_bestOpening 138 = .ok (.iinc 7 1, 3) := by decide +kernel
theorem dX4_bestOpening_141 : decode cX4_bestOpening 141 = .ok (.goto (-79), 3) := by decide +kernel
theorem dX4_bestOpening_144 : decode cX4_bestOpening 144 = .ok (.aload_n 0, 1) := by decide +kernel
theorem dX4_bestOpening_145 : decode cX4_bestOpening 145 = .ok (.getfield 15, 3) := by decide +kernel
theorem dX4_bestOpening_148 : decode cX4_bestOpening 148 = .ok (.iconst 0, 1) := by decide +kernel
theorem dX4_bestOpening_149 : decode cX4_bestOpening 149 = .ok (.aload_n 0, 1) := by decide +kernel
theorem dX4_bestOpening_150 : decode cX4_bestOpening 150 = .ok (.getfield 18, 3) := by decide +kernel
theorem dX4_bestOpening_153 : decode cX4_bestOpening 153 = .ok (.getfield 80, 3) := by decide +kernel
theorem dX4_bestOpening_156 : decode cX4_bestOpening 156 = .ok (.iconst 0, 1) := by decide +kernel
theorem dX4_bestOpening_157 : decode cX4_bestOpening 157 = .ok (.iconst 4, 1) := by decide +kernel
theorem dX4_bestOpening_158 : decode cX4_bestOpening 158 = .ok (.invokestatic 83, 3) := by decide +kernel
theorem dX4_bestOpening_161 : decode cX4_bestOpening 161 = .ok (.iload 5, 2) := by decide +kernel
theorem dX4_bestOpening_163 : decode cX4_bestOpening 163 = .ok (.ireturn, 1) := by decide +kernel
theorem dX4_periodByFullShifts_0 : decode cX4_periodByFullShifts 0 = .ok (.aload_n 0, 1) := by decide +kernel
theorem dX4_periodByFullShifts_1 : decode cX4_periodByFullShifts 1 = .ok (.getfield 18, 3) := by decide +kernel
theorem dX4_periodByFullShifts_4 : decode cX4_periodByFullShifts 4 = .ok (.getfield 80, 3) := by decide +kernel
theorem dX4_periodByFullShifts_7 : decode cX4_periodByFullShifts 7 = .ok (.iconst 0, 1) := by decide +kernel
theorem dX4_periodByFullShifts_8 : decode cX4_periodByFullShifts 8 = .ok (.aload_n 0, 1) := by decide +kernel
theorem dX4_periodByFullShifts_9 : decode cX4_periodByFullShifts 9 = .ok (.getfield 15, 3) := by decide +kernel
theorem dX4_periodByFullShifts_12 : decode cX4_periodByFullShifts 12 = .ok (.iconst 0, 1) := by decide +kernel
theorem dX4_periodByFullShifts_13 : decode cX4_periodByFullShifts 13 = .ok (.iconst 4, 1) := by decide +kernel
theorem dX4_periodByFullShifts_14 : decode cX4_periodByFullShifts 14 = .ok (.invokestatic 83, 3) := by decide +kernel
theorem dX4_periodByFullShifts_17 : decode cX4_periodByFullShifts 17 = .ok (.aload_n 0, 1) := by decide +kernel
theorem dX4_periodByFullShifts_18 : decode cX4_periodByFullShifts 18 = .ok (.getfield 18, 3) := by decide +kernel
theorem dX4_periodByFullShifts_21 : decode cX4_periodByFullShifts 21 = .ok (.getfield 80, 3) := by decide +kernel
theorem dX4_periodByFullShifts_24 : decode cX4_periodByFullShifts 24 = .ok (.iconst 0, 1) := by decide +kernel
theorem dX4_periodByFullShifts_25 : decode cX4_periodByFullShifts 25 = .ok (.invokestatic 95, 3) := by decide +kernel
theorem dX4_periodByFullShifts_28 : decode cX4_periodByFullShifts 28 = .ok (.aload_n 0, 1) := by decide +kernel
theorem dX4_periodByFullShifts_29 : decode cX4_periodByFullShifts 29 = .ok (.getfield 31, 3) := by decide +kernel
theorem dX4_periodByFullShifts_32 : decode cX4_periodByFullShifts 32 = .ok (.invokevirtual 35, 3) := by decide +kernel
theorem dX4_periodByFullShifts_35 : decode cX4_periodByFullShifts 35 = .ok (.aload_n 0, 1) := by decide +kernel
theorem dX4_periodByFullShifts_36 : decode cX4_periodByFullShifts 36 = .ok (.getfield 31, 3) := by decide +kernel
theorem dX4_periodByFullShifts_39 : decode cX4_periodByFullShifts 39 = .ok (.iconst 1, 1) := by decide +kernel
theorem dX4_periodByFullShifts_40 : decode cX4_periodByFullShifts 40 = .ok (.sipush 9999, 3) := by decide +kernel
theorem dX4_periodByFullShifts_43 : decode cX4_periodByFullShifts 43 = .ok (.invokevirtual 38, 3) := by decide +kernel
theorem dX4_periodByFullShifts_46 : decode cX4_periodByFullShifts 46 = .ok (.istore_n 1, 1) := by decide +kernel
theorem dX4_periodByFullShifts_47 : decode cX4_periodByFullShifts 47 = .ok (.aload_n 0, 1) := by decide +kernel
theorem dX4_periodByFullShifts_48 : decode cX4_periodByFullShifts 48 = .ok (.getfield 15, 3) := by decide +kernel
theorem dX4_periodByFullShifts_51 : decode cX4_periodByFullShifts 51 = .ok (.iconst 0, 1) := by decide +kernel
theorem dX4_periodByFullShifts_52 : decode cX4_periodByFullShifts 52 = .ok (.aload_n 0, 1) := by decide +kernel
theorem dX4_periodByFullShifts_53 : decode cX4_periodByFullShifts 53 = .ok (.getfield 18, 3) := by decide +kernel
theorem dX4_periodByFullShifts_56 : decode cX4_periodByFullShifts 56 = .ok (.getfield 80, 3) := by decide +kernel
theorem dX4_periodByFullShifts_59 : decode cX4_periodByFullShifts 59 = .ok (.iconst 0, 1) := by decide +kernel
theorem dX4_periodByFullShifts_60 : decode cX4_periodByFullShifts 60 = .ok (.iconst 4, 1) := by decide +kernel
theorem dX4_periodByFullShifts_61 : decode cX4_periodByFullShifts 61 = .ok (.invokestatic 83, 3) := by decide +kernel
theorem dX4_periodByFullShifts_64 : decode cX4_periodByFullShifts 64 = .ok (.iload_n 1, 1) := by decide +kernel
theorem dX4_periodByFullShifts_65 : decode cX4_periodByFullShifts 65 = .ok (.ireturn, 1) := by decide +kernel
theorem dX4_isGoodAt_0 : decode cX4_isGoodAt 0 = .ok (.aload_n 0, 1) := by decide +kernel
theorem dX4_isGoodAt_1 : decode cX4_isGoodAt 1 = .ok (.getfield 31, 3) := by decide +kernel
theorem dX4_isGoodAt_4 : decode cX4_isGoodAt 4 = .ok (.iload_n 1, 1) := by decide +kernel
theorem dX4_isGoodAt_5 : decode cX4_isGoodAt 5 = .ok (.invokevirtual 61, 3) := by decide +kernel
theorem dX4_isGoodAt_8 : decode cX4_isGoodAt 8 = .ok (.ifCond .le 5, 3) := by decide +kernel
theorem dX4_isGoodAt_11 : decode cX4_isGoodAt 11 = .ok (.iconst 0, 1) := by decide +kernel
theorem dX4_isGoodAt_12 : decode cX4_isGoodAt 12 = .ok (.ireturn, 1) := by decide +kernel
theorem dX4_isGoodAt_13 : decode cX4_isGoodAt 13 = .ok (.aload_n 0, 1) := by decide +kernel
theorem dX4_isGoodAt_14 : decode cX4_isGoodAt 14 = .ok (.getfield 31, 3) := by decide +kernel
theorem dX4_isGoodAt_17 : decode cX4_isGoodAt 17 = .ok (.invokevirtual 35, 3) := by decide +kernel
theorem dX4_isGoodAt_20 : decode cX4_isGoodAt 20 = .ok (.aload_n 0, 1) := by decide +kernel
theorem dX4_isGoodAt_21 : decode cX4_isGoodAt 21 = .ok (.getfield 31, 3) := by decide +kernel
theorem dX4_isGoodAt_24 : decode cX4_isGoodAt 24 = .ok (.iload_n 1, 1) := by decide +kernel
theorem dX4_isGoodAt_25 : decode cX4_isGoodAt 25 = .ok (.invokevirtual 54, 3) := by decide +kernel
theorem dX4_isGoodAt_28 : decode cX4_isGoodAt 28 = .ok (.ireturn, 1) := by decide +kernel
theorem dX4_bestMoving_0 : decode cX4_bestMoving 0 = .ok (.aload_n 0, 1) := by decide +kernel
theorem dX4_bestMoving_1 : decode cX4_bestMoving 1 = .ok (.iload_n 1, 1) := by decide +kernel
theorem dX4_bestMoving_2 : decode cX4_bestMoving 2 = .ok (.sipush 9999, 3) := by decide +kernel
theorem dX4_bestMoving_5 : decode cX4_bestMoving 5 = .ok (.invokevirtual 101, 3) := by decide +kernel
theorem dX4_bestMoving_8 : decode cX4_bestMoving 8 = .ok (.istore_n 2, 1) := by decide +kernel
theorem dX4_bestMoving_9 : decode cX4_bestMoving 9 = .ok (.iconst 1, 1) := by decide +kernel
theorem dX4_bestMoving_10 : decode cX4_bestMoving 10 = .ok (.istore_n 3, 1) := by decide +kernel
theorem dX4_bestMoving_11 : decode cX4_bestMoving 11 = .ok (.iload_n 2, 1) := by decide +kernel
theorem dX4_bestMoving_12 : decode cX4_bestMoving 12 = .ok (.sipush (-2000), 3) := by decide +kernel
theorem dX4_bestMoving_15 : decode cX4_bestMoving 15 = .ok (.if_icmp .ne 7, 3) := by decide +kernel
theorem dX4_bestMoving_18 : decode cX4_bestMoving 18 = .ok (.iconst 0, 1) := by decide +kernel
theorem dX4_bestMoving_19 : decode cX4_bestMoving 19 = .ok (.goto 6, 3) := by decide +kernel
theorem dX4_bestMoving_22 : decode cX4_bestMoving 22 = .ok (.sipush 9998, 3) := by decide +kernel
theorem dX4_bestMoving_25 : decode cX4_bestMoving 25 = .ok (.istore 4, 2) := by decide +kernel
theorem dX4_bestMoving_27 : decode cX4_bestMoving 27 = .ok (.iconst 0, 1) := by decide +kernel
theorem dX4_bestMoving_28 : decode cX4_bestMoving 28 = .ok (.istore 5, 2) := by decide +kernel
theorem dX4_bestMoving_30 : decode cX4_bestMoving 30 = .ok (.iload 5, 2) := by decide +kernel
theorem dX4_bestMoving_32 : decode cX4_bestMoving 32 = .ok (.bipush 32, 2) := by decide +kernel
theorem dX4_bestMoving_34 : decode cX4_bestMoving 34 = .ok (.if_icmp .ge 57, 3) := by decide +kernel
theorem dX4_bestMoving_37 : decode cX4_bestMoving 37 = .ok (.iload_n 3, 1) := by decide +kernel
theorem dX4_bestMoving_38 : decode cX4_bestMoving 38 = .ok (.iload 4, 2) := by decide +kernel
theorem dX4_bestMoving_40 : decode cX4_bestMoving 40 = .ok (.if_icmp .gt 51, 3) := by decide +kernel
theorem dX4_bestMoving_43 : decode cX4_bestMoving 43 = .ok (.iload_n 3, 1) := by decide +kernel
theorem dX4_bestMoving_44 : decode cX4_bestMoving 44 = .ok (.iload 4, 2) := by decide +kernel
theorem dX4_bestMoving_46 : decode cX4_bestMoving 46 = .ok (.iadd, 1) := by decide +kernel
theorem dX4_bestMoving_47 : decode cX4_bestMoving 47 = .ok (.iconst 2, 1) := by decide +kernel
theorem dX4_bestMoving_48 : decode cX4_bestMoving 48 = .ok (.idiv, 1) := by decide +kernel
theorem dX4_bestMoving_49 : decode cX4_bestMoving 49 = .ok (.istore 6, 2) := by decide +kernel
theorem dX4_bestMoving_51 : decode cX4_bestMoving 51 = .ok (.aload_n 0, 1) := by decide +kernel
theorem dX4_bestMoving_52 : decode cX4_bestMoving 52 = .ok (.iload_n 1, 1) := by decide +kernel
theorem dX4_bestMoving_53 : decode cX4_bestMoving 53 = .ok (.iload 6, 2) := by decide +kernel
theorem dX4_bestMoving_55 : decode cX4_bestMoving 55 = .ok (.invokevirtual 101, 3) := by decide +kernel
theorem dX4_bestMoving_58 : decode cX4_bestMoving 58 = .ok (.istore 7, 2) := by decide +kernel
theorem dX4_bestMoving_60 : decode cX4_bestMoving 60 = .ok (.iload 7, 2) := by decide +kernel
theorem dX4_bestMoving_62 : decode cX4_bestMoving 62 = .ok (.sipush (-2000), 3) := by decide +kernel
theorem dX4_bestMoving_65 : decode cX4_bestMoving 65 = .ok (.if_icmp .ne 11, 3) := by decide +kernel
theorem dX4_bestMoving_68 : decode cX4_bestMoving 68 = .ok (.iload 6, 2) := by decide +kernel
theorem dX4_bestMoving_70 : decode cX4_bestMoving 70 = .ok (.iconst 1, 1) := by decide +kernel
theorem dX4_bestMoving_71 : decode cX4_bestMoving 71 = .ok (.iadd, 1) := by decide +kernel
theorem dX4_bestMoving_72 : decode cX4_bestMoving 72 = .ok (.istore_n 3, 1) := by decide +kernel
theorem dX4_bestMoving_73 : decode cX4_bestMoving 73 = .ok (.goto 12, 3) := by decide +kernel
theorem dX4_bestMoving_76 : decode cX4_bestMoving 76 = .ok (.iload 7, 2) := by decide +kernel
theorem dX4_bestMoving_78 : decode cX4_bestMoving 78 = .ok (.istore_n 2, 1) := by decide +kernel
theorem dX4_bestMoving_79 : decode cX4_bestMoving 79 = .ok (.iload 6, 2) := by decide +kernel
theorem dX4_bestMoving_81 : decode cX4_bestMoving 81 = .ok (.iconst 1, 1) := by decide +kernel
theorem dX4_bestMoving_82 : decode cX4_bestMoving 82 = .ok (.isub, 1) := by decide +kernel
theorem dX4_bestMoving_83 : decode cX4_bestMoving 83 = .ok (.istore 4, 2) := by decide +kernel
theorem dX4_bestMoving_85 : decode cX4_bestMoving 85 = .ok (.iinc 5 1, 3) := by decide +kernel
theorem dX4_bestMoving_88 : decode cX4_bestMoving 88 = .ok (.goto (-58), 3) := by decide +kernel
theorem dX4_bestMoving_91 : decode cX4_bestMoving 91 = .ok (.iload_n 2, 1) := by decide +kernel
theorem dX4_bestMoving_92 : decode cX4_bestMoving 92 = .ok (.ireturn, 1) := by decide +kernel
theorem dX4_moveNearZero_0 : decode cX4_moveNearZero 0 = .ok (.aload_n 0, 1) := by decide +kernel
theorem dX4_moveNearZero_1 : decode cX4_moveNearZero 1 = .ok (.getfield 18, 3) := by decide +kernel
theorem dX4_moveNearZero_4 : decode cX4_moveNearZero 4 = .ok (.iload_n 1, 1) := by decide +kernel
theorem dX4_moveNearZero_5 : decode cX4_moveNearZero 5 = .ok (.invokevirtual 104, 3) := by decide +kernel
theorem dX4_moveNearZero_8 : decode cX4_moveNearZero 8 = .ok (.istore_n 3, 1) := by decide +kernel
theorem dX4_moveNearZero_9 : decode cX4_moveNearZero 9 = .ok (.aload_n 0, 1) := by decide +kernel
theorem dX4_moveNearZero_10 : decode cX4_moveNearZero 10 = .ok (.getfield 18, 3) := by decide +kernel
theorem dX4_moveNearZero_13 : decode cX4_moveNearZero 13 = .ok (.iload_n 1, 1) := by decide +kernel
theorem dX4_moveNearZero_14 : decode cX4_moveNearZero 14 = .ok (.invokevirtual 107, 3) := by decide +kernel
theorem dX4_moveNearZero_17 : decode cX4_moveNearZero 17 = .ok (.istore 4, 2) := by decide +kernel
theorem dX4_moveNearZero_19 : decode cX4_moveNearZero 19 = .ok (.iconst 0, 1) := by decide +kernel
theorem dX4_moveNearZero_20 : decode cX4_moveNearZero 20 = .ok (.istore 5, 2) := by decide +kernel
theorem dX4_moveNearZero_22 : decode cX4_moveNearZero 22 = .ok (.iload 5, 2) := by decide +kernel
theorem dX4_moveNearZero_24 : decode cX4_moveNearZero 24 = .ok (.sipush 1998, 3) := by decide +kernel
theorem dX4_moveNearZero_27 : decode cX4_moveNearZero 27 = .ok (.if_icmp .gt 132, 3) := by decide +kernel
theorem dX4_moveNearZero_30 : decode cX4_moveNearZero 30 = .ok (.iload_n 3, 1) := by decide +kernel
theorem dX4_moveNearZero_31 : decode cX4_moveNearZero 31 = .ok (.iload 4, 2) := by decide +kernel
theorem dX4_moveNearZero_33 : decode cX4_moveNearZero 33 = .ok (.if_icmp .gt 126, 3) := by decide +kernel
theorem dX4_moveNearZero_36 : decode cX4_moveNearZero 36 = .ok (.iconst 0, 1) := by decide +kernel
theorem dX4_moveNearZero_37 : decode cX4_moveNearZero 37 = .ok (.iload_n 3, 1) := by decide +kernel
theorem dX4_moveNearZero_38 : decode cX4_moveNearZero 38 = .ok (.invokestatic 68, 3) := by decide +kernel
theorem dX4_moveNearZero_41 : decode cX4_moveNearZero 41 = .ok (.iload 4, 2) := by decide +kernel
theorem dX4_moveNearZero_43 : decode cX4_moveNearZero 43 = .ok (.invokestatic 110, 3) := by decide +kernel
theorem dX4_moveNearZero_46 : decode cX4_moveNearZero 46 = .ok (.istore 6, 2) := by decide +kernel
theorem dX4_moveNearZero_48 : decode cX4_moveNearZero 48 = .ok (.aload_n 0, 1) := by decide +kernel
theorem dX4_moveNearZero_49 : decode cX4_moveNearZero 49 = .ok (.getfield 18, 3) := by decide +kernel
theorem dX4_moveNearZero_52 : decode cX4_moveNearZero 52 = .ok (.iload_n 1, 1) := by decide +kernel
theorem dX4_moveNearZero_53 : decode cX4_moveNearZero 53 = .ok (.iload 6, 2) := by decide +kernel
theorem dX4_moveNearZero_55 : decode cX4_moveNearZero 55 = .ok (.invokevirtual 113, 3) := by decide +kernel
theorem dX4_moveNearZero_58 : decode cX4_moveNearZero 58 = .ok (.aload_n 0, 1) := by decide +kernel
theorem dX4_moveNearZero_59 : decode cX4_moveNearZero 59 = .ok (.getfield 31, 3) := by decide +kernel
theorem dX4_moveNearZero_62 : decode cX4_moveNearZero 62 = .ok (.invokevirtual 35, 3) := by decide +kernel
theorem dX4_moveNearZero_65 : decode cX4_moveNearZero 65 = .ok (.aload_n 0, 1) := by decide +kernel
theorem dX4_moveNearZero_66 : decode cX4_moveNearZero 66 = .ok (.getfield 31, 3) := by decide +kernel
theorem dX4_moveNearZero_69 : decode cX4_moveNearZero 69 = .ok (.iload_n 2, 1) := by decide +kernel
theorem dX4_moveNearZero_70 : decode cX4_moveNearZero 70 = .ok (.invokevirtual 54, 3) := by decide +kernel
theorem dX4_moveNearZero_73 : decode cX4_moveNearZero 73 = .ok (.istore 7, 2) := by decide +kernel
theorem dX4_moveNearZero_75 : decode cX4_moveNearZero 75 = .ok (.aload_n 0, 1) := by decide +kernel
theorem dX4_moveNearZero_76 : decode cX4_moveNearZero 76 = .ok (.getfield 18, 3) := by decide +kernel
theorem dX4_moveNearZero_79 : decode cX4_moveNearZero 79 = .ok (.iload_n 1, 1) := by decide +kernel
theorem dX4_moveNearZero_80 : decode cX4_moveNearZero 80 = .ok (.iload 6, 2) := by decide +kernel
theorem dX4_moveNearZero_82 : decode cX4_moveNearZero 82 = .ok (.ineg, 1) := by decide +kernel
theorem dX4_moveNearZero_83 : decode cX4_moveNearZero 83 = .ok (.invokevirtual 113, 3) := by decide +kernel
theorem dX4_moveNearZero_86 : decode cX4_moveNearZero 86 = .ok (.iload 7, 2) := by decide +kernel
theorem dX4_moveNearZero_88 : decode cX4_moveNearZero 88 = .ok (.ifCond .eq 6, 3) := by decide +kernel
theorem dX4_moveNearZero_91 : decode cX4_moveNearZero 91 = .ok (.iload 6, 2) := by decide +kernel
theorem dX4_moveNearZero_93 : decode cX4_moveNearZero 93 = .ok (.ireturn, 1) := by decide +kernel
theorem dX4_moveNearZero_94 : decode cX4_moveNearZero 94 = .ok (.aload_n 0, 1) := by decide +kernel
theorem dX4_moveNearZero_95 : decode cX4_moveNearZero 95 = .ok (.getfield 31, 3) := by decide +kernel
theorem dX4_moveNearZero_98 : decode cX4_moveNearZero 98 = .ok (.iload_n 1, 1) := by decide +kernel
theorem dX4_moveNearZero_99 : decode cX4_moveNearZero 99 = .ok (.invokevirtual 117, 3) := by decide +kernel
theorem dX4_moveNearZero_102 : decode cX4_moveNearZero 102 = .ok (.istore 8, 2) := by decide +kernel
theorem dX4_moveNearZero_104 : decode cX4_moveNearZero 104 = .ok (.iconst 1, 1) := by decide +kernel
theorem dX4_moveNearZero_105 : decode cX4_moveNearZero 105 = .ok (.aload_n 0, 1) := by decide +kernel
theorem dX4_moveNearZero_106 : decode cX4_moveNearZero 106 = .ok (.getfield 31, 3) := by decide +kernel
theorem dX4_moveNearZero_109 : decode cX4_moveNearZero 109 = .ok (.iload_n 2, 1) := by decide +kernel
theorem dX4_moveNearZero_110 : decode cX4_moveNearZero 110 = .ok (.invokevirtual 61, 3) := by decide +kernel
theorem dX4_moveNearZero_113 : decode cX4_moveNearZero 113 = .ok (.bipush 64, 2) := by decide +kernel
theorem dX4_moveNearZero_115 : decode cX4_moveNearZero 115 = .ok (.invokestatic 65, 3) := by decide +kernel
theorem dX4_moveNearZero_118 : decode cX4_moveNearZero 118 = .ok (.invokestatic 68, 3) := by decide +kernel
theorem dX4_moveNearZero_121 : decode cX4_moveNearZero 121 = .ok (.istore 9, 2) := by decide +kernel
theorem dX4_moveNearZero_123 : decode cX4_moveNearZero 123 = .ok (.iload 8, 2) := by decide +kernel
theorem dX4_moveNearZero_125 : decode cX4_moveNearZero 125 = .ok (.ifCond .ne 7, 3) := by decide +kernel
theorem dX4_moveNearZero_128 : decode cX4_moveNearZero 128 = .ok (.sipush (-2000), 3) := by decide +kernel
theorem dX4_moveNearZero_131 : decode cX4_moveNearZero 131 = .ok (.ireturn, 1) := by decide +kernel
theorem dX4_moveNearZero_132 : decode cX4_moveNearZero 132 = .ok (.iload 8, 2) := by decide +kernel
theorem dX4_moveNearZero_134 : decode cX4_moveNearZero 134 = .ok (.ifCond .le 13, 3) := by decide +kernel
theorem dX4_moveNearZero_137 : decode cX4_moveNearZero 137 = .ok (.iload 6, 2) := by decide +kernel
theorem dX4_moveNearZero_139 : decode cX4_moveNearZero 139 = .ok (.iload 9, 2) := by decide +kernel
theorem dX4_moveNearZero_141 : decode cX4_moveNearZero 141 = .ok (.isub, 1) := by decide +kernel
theorem dX4_moveNearZero_142 : decode cX4_moveNearZero 142 = .ok (.istore 4, 2) := by decide +kernel
theorem dX4_moveNearZero_144 : decode cX4_moveNearZero 144 = .ok (.goto 9, 3) := by decide +kernel
theorem dX4_moveNearZero_147 : decode cX4_moveNearZero 147 = .ok (.iload 6, 2) := by decide +kernel
theorem dX4_moveNearZero_149 : decode cX4_moveNearZero 149 = .ok (.iload 9, 2) := by decide +kernel
theorem dX4_moveNearZero_151 : decode cX4_moveNearZero 151 = .ok (.iadd, 1) := by decide +kernel
theorem dX4_moveNearZero_152 : decode cX4_moveNearZero 152 = .ok (.istore_n 3, 1) := by decide +kernel
theorem dX4_moveNearZero_153 : decode cX4_moveNearZero 153 = .ok (.iinc 5 1, 3) := by decide +kernel
theorem dX4_moveNearZero_156 : decode cX4_moveNearZero 156 = .ok (.goto (-134), 3) := by decide +kernel
theorem dX4_moveNearZero_159 : decode cX4_moveNearZero 159 = .ok (.sipush (-2000), 3) := by decide +kernel
theorem dX4_moveNearZero_162 : decode cX4_moveNearZero 162 = .ok (.ireturn, 1) := by decide +kernel
theorem dX4_byChance_0 : decode cX4_byChance 0 = .ok (.aload_n 0, 1) := by decide +kernel
theorem dX4_byChance_1 : decode cX4_byChance 1 = .ok (.getfield 18, 3) := by decide +kernel
theorem dX4_byChance_4 : decode cX4_byChance 4 = .ok (.getfield 42, 3) := by decide +kernel
theorem dX4_byChance_7 : decode cX4_byChance 7 = .ok (.iconst 0, 1) := by decide +kernel
theorem dX4_byChance_8 : decode cX4_byChance 8 = .ok (.aload_n 0, 1) := by decide +kernel
theorem dX4_byChance_9 : decode cX4_byChance 9 = .ok (.getfield 9, 3) := by decide +kernel
theorem dX4_byChance_12 : decode cX4_byChance 12 = .ok (.iconst 0, 1) := by decide +kernel
theorem dX4_byChance_13 : decode cX4_byChance 13 = .ok (.bipush 24, 2) := by decide +kernel
theorem dX4_byChance_15 : decode cX4_byChance 15 = .ok (.invokestatic 83, 3) := by decide +kernel
theorem dX4_byChance_18 : decode cX4_byChance 18 = .ok (.iload_n 1, 1) := by decide +kernel
theorem dX4_byChance_19 : decode cX4_byChance 19 = .ok (.istore 4, 2) := by decide +kernel
theorem dX4_byChance_21 : decode cX4_byChance 21 = .ok (.iconst 0, 1) := by decide +kernel
theorem dX4_byChance_22 : decode cX4_byChance 22 = .ok (.istore 5, 2) := by decide +kernel
theorem dX4_byChance_24 : decode cX4_byChance 24 = .ok (.iconst 0, 1) := by decide +kernel
theorem dX4_byChance_25 : decode cX4_byChance 25 = .ok (.istore 6, 2) := by decide +kernel
theorem dX4_byChance_27 : decode cX4_byChance 27 = .ok (.iload 6, 2) := by decide +kernel
theorem dX4_byChance_29 : decode cX4_byChance 29 = .ok (.iload_n 2, 1) := by decide +kernel
theorem dX4_byChance_30 : decode cX4_byChance 30 = .ok (.if_icmp .ge 62, 3) := by decide +kernel
theorem dX4_byChance_33 : decode cX4_byChance 33 = .ok (.aload_n 0, 1) := by decide +kernel

theorem dX4_byChance_34 : decode cX4_byChance 34 = .ok (.iload 4, 2) := by decide +kernel
theorem dX4_byChance_36 : decode cX4_byChance 36 = .ok (.invokevirtual 120, 3) := by decide +kernel
theorem dX4_byChance_39 : decode cX4_byChance 39 = .ok (.istore 4, 2) := by decide +kernel
theorem dX4_byChance_41 : decode cX4_byChance 41 = .ok (.iload_n 3, 1) := by decide +kernel
theorem dX4_byChance_42 : decode cX4_byChance 42 = .ok (.iconst 2, 1) := by decide +kernel
theorem dX4_byChance_43 : decode cX4_byChance 43 = .ok (.if_icmp .ne 19, 3) := by decide +kernel
theorem dX4_byChance_46 : decode cX4_byChance 46 = .ok (.iload 5, 2) := by decide +kernel
theorem dX4_byChance_48 : decode cX4_byChance 48 = .ok (.aload_n 0, 1) := by decide +kernel
theorem dX4_byChance_49 : decode cX4_byChance 49 = .ok (.iload 5, 2) := by decide +kernel
theorem dX4_byChance_51 : decode cX4_byChance 51 = .ok (.invokevirtual 123, 3) := by decide +kernel
theorem dX4_byChance_54 : decode cX4_byChance 54 = .ok (.invokestatic 68, 3) := by decide +kernel
theorem dX4_byChance_57 : decode cX4_byChance 57 = .ok (.istore 5, 2) := by decide +kernel
theorem dX4_byChance_59 : decode cX4_byChance 59 = .ok (.goto 27, 3) := by decide +kernel
theorem dX4_byChance_62 : decode cX4_byChance 62 = .ok (.iload_n 3, 1) := by decide +kernel
theorem dX4_byChance_63 : decode cX4_byChance 63 = .ok (.ifCond .ne 13, 3) := by decide +kernel
theorem dX4_byChance_66 : decode cX4_byChance 66 = .ok (.aload_n 0, 1) := by decide +kernel
theorem dX4_byChance_67 : decode cX4_byChance 67 = .ok (.invokevirtual 126, 3) := by decide +kernel
theorem dX4_byChance_70 : decode cX4_byChance 70 = .ok (.ifCond .eq 16, 3) := by decide +kernel
theorem dX4_byChance_73 : decode cX4_byChance 73 = .ok (.goto 10, 3) := by decide +kernel
theorem dX4_byChance_76 : decode cX4_byChance 76 = .ok (.aload_n 0, 1) := by decide +kernel
theorem dX4_byChance_77 : decode cX4_byChance 77 = .ok (.invokevirtual 130, 3) := by decide +kernel
theorem dX4_byChance_80 : decode cX4_byChance 80 = .ok (.ifCond .eq 6, 3) := by decide +kernel
theorem dX4_byChance_83 : decode cX4_byChance 83 = .ok (.iinc 5 1, 3) := by decide +kernel
theorem dX4_byChance_86 : decode cX4_byChance 86 = .ok (.iinc 6 1, 3) := by decide +kernel
theorem dX4_byChance_89 : decode cX4_byChance 89 = .ok (.goto (-62), 3) := by decide +kernel
theorem dX4_byChance_92 : decode cX4_byChance 92 = .ok (.aload_n 0, 1) := by decide +kernel
theorem dX4_byChance_93 : decode cX4_byChance 93 = .ok (.getfield 9, 3) := by decide +kernel
theorem dX4_byChance_96 : decode cX4_byChance 96 = .ok (.iconst 0, 1) := by decide +kernel
theorem dX4_byChance_97 : decode cX4_byChance 97 = .ok (.aload_n 0, 1) := by decide +kernel
theorem dX4_byChance_98 : decode cX4_byChance 98 = .ok (.getfield 18, 3) := by decide +kernel
theorem dX4_byChance_101 : decode cX4_byChance 101 = .ok (.getfield 42, 3) := by decide +kernel
theorem dX4_byChance_104 : decode cX4_byChance 104 = .ok (.iconst 0, 1) := by decide +kernel
theorem dX4_byChance_105 : decode cX4_byChance 105 = .ok (.bipush 24, 2) := by decide +kernel
theorem dX4_byChance_107 : decode cX4_byChance 107 = .ok (.invokestatic 83, 3) := by decide +kernel
theorem dX4_byChance_110 : decode cX4_byChance 110 = .ok (.aload_n 0, 1) := by decide +kernel
theorem dX4_byChance_111 : decode cX4_byChance 111 = .ok (.getfield 22, 3) := by decide +kernel
theorem dX4_byChance_114 : decode cX4_byChance 114 = .ok (.iconst 0, 1) := by decide +kernel
theorem dX4_byChance_115 : decode cX4_byChance 115 = .ok (.putfield 133, 3) := by decide +kernel
theorem dX4_byChance_118 : decode cX4_byChance 118 = .ok (.iload 5, 2) := by decide +kernel
theorem dX4_byChance_120 : decode cX4_byChance 120 = .ok (.ireturn, 1) := by decide +kernel
theorem dX4_drawDelays_0 : decode cX4_drawDelays 0 = .ok (.iload_n 1, 1) := by decide +kernel
theorem dX4_drawDelays_1 : decode cX4_drawDelays 1 = .ok (.istore_n 2, 1) := by decide +kernel
theorem dX4_drawDelays_2 : decode cX4_drawDelays 2 = .ok (.iconst 0, 1) := by decide +kernel
theorem dX4_drawDelays_3 : decode cX4_drawDelays 3 = .ok (.istore_n 3, 1) := by decide +kernel
theorem dX4_drawDelays_4 : decode cX4_drawDelays 4 = .ok (.iload_n 3, 1) := by decide +kernel
theorem dX4_drawDelays_5 : decode cX4_drawDelays 5 = .ok (.aload_n 0, 1) := by decide +kernel
theorem dX4_drawDelays_6 : decode cX4_drawDelays 6 = .ok (.getfield 18, 3) := by decide +kernel
theorem dX4_drawDelays_9 : decode cX4_drawDelays 9 = .ok (.getfield 139, 3) := by decide +kernel
theorem dX4_drawDelays_12 : decode cX4_drawDelays 12 = .ok (.if_icmp .ge 71, 3) := by decide +kernel
theorem dX4_drawDelays_15 : decode cX4_drawDelays 15 = .ok (.iload_n 2, 1) := by decide +kernel
theorem dX4_drawDelays_16 : decode cX4_drawDelays 16 = .ok (.ldc 142, 2) := by decide +kernel
theorem dX4_drawDelays_18 : decode cX4_drawDelays 18 = .ok (.imul, 1) := by decide +kernel
theorem dX4_drawDelays_19 : decode cX4_drawDelays 19 = .ok (.sipush 12345, 3) := by decide +kernel
theorem dX4_drawDelays_22 : decode cX4_drawDelays 22 = .ok (.iadd, 1) := by decide +kernel
theorem dX4_drawDelays_23 : decode cX4_drawDelays 23 = .ok (.ldc 143, 2) := by decide +kernel
theorem dX4_drawDelays_25 : decode cX4_drawDelays 25 = .ok (.iand, 1) := by decide +kernel
theorem dX4_drawDelays_26 : decode cX4_drawDelays 26 = .ok (.istore_n 2, 1) := by decide +kernel
theorem dX4_drawDelays_27 : decode cX4_drawDelays 27 = .ok (.aload_n 0, 1) := by decide +kernel
theorem dX4_drawDelays_28 : decode cX4_drawDelays 28 = .ok (.getfield 9, 3) := by decide +kernel
theorem dX4_drawDelays_31 : decode cX4_drawDelays 31 = .ok (.iload_n 3, 1) := by decide +kernel
theorem dX4_drawDelays_32 : decode cX4_drawDelays 32 = .ok (.iaload, 1) := by decide +kernel
theorem dX4_drawDelays_33 : decode cX4_drawDelays 33 = .ok (.aload_n 0, 1) := by decide +kernel
theorem dX4_drawDelays_34 : decode cX4_drawDelays 34 = .ok (.getfield 18, 3) := by decide +kernel
theorem dX4_drawDelays_37 : decode cX4_drawDelays 37 = .ok (.getfield 47, 3) := by decide +kernel
theorem dX4_drawDelays_40 : decode cX4_drawDelays 40 = .ok (.iload_n 3, 1) := by decide +kernel
theorem dX4_drawDelays_41 : decode cX4_drawDelays 41 = .ok (.iaload, 1) := by decide +kernel
theorem dX4_drawDelays_42 : decode cX4_drawDelays 42 = .ok (.isub, 1) := by decide +kernel
theorem dX4_drawDelays_43 : decode cX4_drawDelays 43 = .ok (.iconst 1, 1) := by decide +kernel
theorem dX4_drawDelays_44 : decode cX4_drawDelays 44 = .ok (.iadd, 1) := by decide +kernel
theorem dX4_drawDelays_45 : decode cX4_drawDelays 45 = .ok (.iconst 1, 1) := by decide +kernel
theorem dX4_drawDelays_46 : decode cX4_drawDelays 46 = .ok (.invokestatic 68, 3) := by decide +kernel
theorem dX4_drawDelays_49 : decode cX4_drawDelays 49 = .ok (.istore 4, 2) := by decide +kernel
theorem dX4_drawDelays_51 : decode cX4_drawDelays 51 = .ok (.aload_n 0, 1) := by decide +kernel
theorem dX4_drawDelays_52 : decode cX4_drawDelays 52 = .ok (.getfield 18, 3) := by decide +kernel
theorem dX4_drawDelays_55 : decode cX4_drawDelays 55 = .ok (.getfield 42, 3) := by decide +kernel
theorem dX4_drawDelays_58 : decode cX4_drawDelays 58 = .ok (.iload_n 3, 1) := by decide +kernel
theorem dX4_drawDelays_59 : decode cX4_drawDelays 59 = .ok (.aload_n 0, 1) := by decide +kernel
theorem dX4_drawDelays_60 : decode cX4_drawDelays 60 = .ok (.getfield 18, 3) := by decide +kernel
theorem dX4_drawDelays_63 : decode cX4_drawDelays 63 = .ok (.getfield 47, 3) := by decide +kernel
theorem dX4_drawDelays_66 : decode cX4_drawDelays 66 = .ok (.iload_n 3, 1) := by decide +kernel
theorem dX4_drawDelays_67 : decode cX4_drawDelays 67 = .ok (.iaload, 1) := by decide +kernel
theorem dX4_drawDelays_68 : decode cX4_drawDelays 68 = .ok (.iload_n 2, 1) := by decide +kernel
theorem dX4_drawDelays_69 : decode cX4_drawDelays 69 = .ok (.bipush 16, 2) := by decide +kernel
theorem dX4_drawDelays_71 : decode cX4_drawDelays 71 = .ok (.ishr, 1) := by decide +kernel
theorem dX4_drawDelays_72 : decode cX4_drawDelays 72 = .ok (.iload 4, 2) := by decide +kernel
theorem dX4_drawDelays_74 : decode cX4_drawDelays 74 = .ok (.irem, 1) := by decide +kernel
theorem dX4_drawDelays_75 : decode cX4_drawDelays 75 = .ok (.iadd, 1) := by decide +kernel
theorem dX4_drawDelays_76 : decode cX4_drawDelays 76 = .ok (.iastore, 1) := by decide +kernel
theorem dX4_drawDelays_77 : decode cX4_drawDelays 77 = .ok (.iinc 3 1, 3) := by decide +kernel
theorem dX4_drawDelays_80 : decode cX4_drawDelays 80 = .ok (.goto (-76), 3) := by decide +kernel
theorem dX4_drawDelays_83 : decode cX4_drawDelays 83 = .ok (.iload_n 2, 1) := by decide +kernel
theorem dX4_drawDelays_84 : decode cX4_drawDelays 84 = .ok (.ireturn, 1) := by decide +kernel
theorem dX4_periodFrom_0 : decode cX4_periodFrom 0 = .ok (.aload_n 0, 1) := by decide +kernel
theorem dX4_periodFrom_1 : decode cX4_periodFrom 1 = .ok (.getfield 31, 3) := by decide +kernel
theorem dX4_periodFrom_4 : decode cX4_periodFrom 4 = .ok (.invokevirtual 35, 3) := by decide +kernel
theorem dX4_periodFrom_7 : decode cX4_periodFrom 7 = .ok (.aload_n 0, 1) := by decide +kernel
theorem dX4_periodFrom_8 : decode cX4_periodFrom 8 = .ok (.getfield 31, 3) := by decide +kernel
theorem dX4_periodFrom_11 : decode cX4_periodFrom 11 = .ok (.iload_n 1, 1) := by decide +kernel
theorem dX4_periodFrom_12 : decode cX4_periodFrom 12 = .ok (.iconst 1, 1) := by decide +kernel
theorem dX4_periodFrom_13 : decode cX4_periodFrom 13 = .ok (.invokestatic 68, 3) := by decide +kernel
theorem dX4_periodFrom_16 : decode cX4_periodFrom 16 = .ok (.sipush 9999, 3) := by decide +kernel
theorem dX4_periodFrom_19 : decode cX4_periodFrom 19 = .ok (.invokevirtual 38, 3) := by decide +kernel
theorem dX4_periodFrom_22 : decode cX4_periodFrom 22 = .ok (.ireturn, 1) := by decide +kernel
theorem dX4_drawnIsGood_0 : decode cX4_drawnIsGood 0 = .ok (.aload_n 0, 1) := by decide +kernel
theorem dX4_drawnIsGood_1 : decode cX4_drawnIsGood 1 = .ok (.getfield 31, 3) := by decide +kernel
theorem dX4_drawnIsGood_4 : decode cX4_drawnIsGood 4 = .ok (.invokevirtual 35, 3) := by decide +kernel
theorem dX4_drawnIsGood_7 : decode cX4_drawnIsGood 7 = .ok (.aload_n 0, 1) := by decide +kernel
theorem dX4_drawnIsGood_8 : decode cX4_drawnIsGood 8 = .ok (.getfield 31, 3) := by decide +kernel
theorem dX4_drawnIsGood_11 : decode cX4_drawnIsGood 11 = .ok (.aload_n 0, 1) := by decide +kernel
theorem dX4_drawnIsGood_12 : decode cX4_drawnIsGood 12 = .ok (.getfield 18, 3) := by decide +kernel
theorem dX4_drawnIsGood_15 : decode cX4_drawnIsGood 15 = .ok (.getfield 50, 3) := by decide +kernel
theorem dX4_drawnIsGood_18 : decode cX4_drawnIsGood 18 = .ok (.invokevirtual 54, 3) := by decide +kernel
theorem dX4_drawnIsGood_21 : decode cX4_drawnIsGood 21 = .ok (.ireturn, 1) := by decide +kernel
theorem dX4_drawnIsForever_0 : decode cX4_drawnIsForever 0 = .ok (.aload_n 0, 1) := by decide +kernel
theorem dX4_drawnIsForever_1 : decode cX4_drawnIsForever 1 = .ok (.getfield 22, 3) := by decide +kernel
theorem dX4_drawnIsForever_4 : decode cX4_drawnIsForever 4 = .ok (.iconst 0, 1) := by decide +kernel
theorem dX4_drawnIsForever_5 : decode cX4_drawnIsForever 5 = .ok (.putfield 133, 3) := by decide +kernel
theorem dX4_drawnIsForever_8 : decode cX4_drawnIsForever 8 = .ok (.aload_n 0, 1) := by decide +kernel
theorem dX4_drawnIsForever_9 : decode cX4_drawnIsForever 9 = .ok (.getfield 22, 3) := by decide +kernel
theorem dX4_drawnIsForever_12 : decode cX4_drawnIsForever 12 = .ok (.invokevirtual 144, 3) := by decide +kernel
theorem dX4_drawnIsForever_15 : decode cX4_drawnIsForever 15 = .ok (.ireturn, 1) := by decide +kernel
theorem dX5_init_0 : decode cX5_init 0 = .ok (.aload_n 0, 1) := by decide +kernel
theorem dX5_init_1 : decode cX5_init 1 = .ok (.invokespecial 3, 3) := by decide +kernel
theorem dX5_init_4 : decode cX5_init 4 = .ok (.aload_n 0, 1) := by decide +kernel
theorem dX5_init_5 : decode cX5_init 5 = .ok (.bipush 24, 2) := by decide +kernel
theorem dX5_init_7 : decode cX5_init 7 = .ok (.newarray .int, 2) := by decide +kernel
theorem dX5_init_9 : decode cX5_init 9 = .ok (.putfield 9, 3) := by decide +kernel
theorem dX5_init_12 : decode cX5_init 12 = .ok (.aload_n 0, 1) := by decide +kernel
theorem dX5_init_13 : decode cX5_init 13 = .ok (.bipush 24, 2) := by decide +kernel
theorem dX5_init_15 : decode cX5_init 15 = .ok (.newarray .int, 2) := by decide +kernel
theorem dX5_init_17 : decode cX5_init 17 = .ok (.putfield 15, 3) := by decide +kernel
theorem dX5_init_20 : decode cX5_init 20 = .ok (.aload_n 0, 1) := by decide +kernel
theorem dX5_init_21 : decode cX5_init 21 = .ok (.bipush 10, 2) := by decide +kernel
theorem dX5_init_23 : decode cX5_init 23 = .ok (.newarray .int, 2) := by decide +kernel
theorem dX5_init_25 : decode cX5_init 25 = .ok (.putfield 18, 3) := by decide +kernel
theorem dX5_init_28 : decode cX5_init 28 = .ok (.aload_n 0, 1) := by decide +kernel
theorem dX5_init_29 : decode cX5_init 29 = .ok (.bipush 10, 2) := by decide +kernel
theorem dX5_init_31 : decode cX5_init 31 = .ok (.newarray .int, 2) := by decide +kernel
theorem dX5_init_33 : decode cX5_init 33 = .ok (.putfield 21, 3) := by decide +kernel
theorem dX5_init_36 : decode cX5_init 36 = .ok (.aload_n 0, 1) := by decide +kernel
theorem dX5_init_37 : decode cX5_init 37 = .ok (.aload_n 1, 1) := by decide +kernel
theorem dX5_init_38 : decode cX5_init 38 = .ok (.putfield 24, 3) := by decide +kernel
theorem dX5_init_41 : decode cX5_init 41 = .ok (.return_, 1) := by decide +kernel
theorem dX5_isForever_0 : decode cX5_isForever 0 = .ok (.aload_n 0, 1) := by decide +kernel
theorem dX5_isForever_1 : decode cX5_isForever 1 = .ok (.getfield 28, 3) := by decide +kernel
theorem dX5_isForever_4 : decode cX5_isForever 4 = .ok (.ifCond .ne 54, 3) := by decide +kernel
theorem dX5_isForever_7 : decode cX5_isForever 7 = .ok (.aload_n 0, 1) := by decide +kernel
theorem dX5_isForever_8 : decode cX5_isForever 8 = .ok (.getfield 24, 3) := by decide +kernel
theorem dX5_isForever_11 : decode cX5_isForever 11 = .ok (.aload_n 0, 1) := by decide +kernel
theorem dX5_isForever_12 : decode cX5_isForever 12 = .ok (.getfield 9, 3) := by decide +kernel
theorem dX5_isForever_15 : decode cX5_isForever 15 = .ok (.invokevirtual 32, 3) := by decide +kernel
theorem dX5_isForever_18 : decode cX5_isForever 18 = .ok (.aload_n 0, 1) := by decide +kernel
theorem dX5_isForever_19 : decode cX5_isForever 19 = .ok (.aload_n 0, 1) := by decide +kernel
theorem dX5_isForever_20 : decode cX5_isForever 20 = .ok (.invokevirtual 38, 3) := by decide +kernel
theorem dX5_isForever_23 : decode cX5_isForever 23 = .ok (.ifCond .ne 7, 3) := by decide +kernel
theorem dX5_isForever_26 : decode cX5_isForever 26 = .ok (.iconst 1, 1) := by decide +kernel
theorem dX5_isForever_27 : decode cX5_isForever 27 = .ok (.goto 4, 3) := by decide +kernel
theorem dX5_isForever_30 : decode cX5_isForever 30 = .ok (.iconst 0, 1) := by decide +kernel
theorem dX5_isForever_31 : decode cX5_isForever 31 = .ok (.putfield 42, 3) := by decide +kernel
theorem dX5_isForever_34 : decode cX5_isForever 34 = .ok (.aload_n 0, 1) := by decide +kernel
theorem dX5_isForever_35 : decode cX5_isForever 35 = .ok (.getfield 24, 3) := by decide +kernel
theorem dX5_isForever_38 : decode cX5_isForever 38 = .ok (.aload_n 0, 1) := by decide +kernel
theorem dX5_isForever_39 : decode cX5_isForever 39 = .ok (.getfield 18, 3) := by decide +kernel
theorem dX5_isForever_42 : decode cX5_isForever 42 = .ok (.aload_n 0, 1) := by decide +kernel
theorem dX5_isForever_43 : decode cX5_isForever 43 = .ok (.getfield 9, 3) := by decide +kernel
theorem dX5_isForever_46 : decode cX5_isForever 46 = .ok (.aload_n 0, 1) := by decide +kernel
theorem dX5_isForever_47 : decode cX5_isForever 47 = .ok (.getfield 21, 3) := by decide +kernel
theorem dX5_isForever_50 : decode cX5_isForever 50 = .ok (.invokevirtual 45, 3) := by decide +kernel
theorem dX5_isForever_53 : decode cX5_isForever 53 = .ok (.aload_n 0, 1) := by decide +kernel
theorem dX5_isForever_54 : decode cX5_isForever 54 = .ok (.iconst 1, 1) := by decide +kernel
theorem dX5_isForever_55 : decode cX5_isForever 55 = .ok (.putfield 28, 3) := by decide +kernel
theorem dX5_isForever_58 : decode cX5_isForever 58 = .ok (.aload_n 0, 1) := by decide +kernel
theorem dX5_isForever_59 : decode cX5_isForever 59 = .ok (.getfield 42, 3) := by decide +kernel
theorem dX5_isForever_62 : decode cX5_isForever 62 = .ok (.ireturn, 1) := by decide +kernel
theorem dX5_settle_0 : decode cX5_settle 0 = .ok (.aload_n 0, 1) := by decide +kernel
theorem dX5_settle_1 : decode cX5_settle 1 = .ok (.getfield 18, 3) := by decide +kernel
theorem dX5_settle_4 : decode cX5_settle 4 = .ok (.iconst 0, 1) := by decide +kernel
theorem dX5_settle_5 : decode cX5_settle 5 = .ok (.invokestatic 49, 3) := by decide +kernel
theorem dX5_settle_8 : decode cX5_settle 8 = .ok (.iconst 0, 1) := by decide +kernel
theorem dX5_settle_9 : decode cX5_settle 9 = .ok (.istore_n 1, 1) := by decide +kernel
theorem dX5_settle_10 : decode cX5_settle 10 = .ok (.iload_n 1, 1) := by decide +kernel
theorem dX5_settle_11 : decode cX5_settle 11 = .ok (.aload_n 0, 1) := by decide +kernel
theorem dX5_settle_12 : decode cX5_settle 12 = .ok (.getfield 24, 3) := by decide +kernel
theorem dX5_settle_15 : decode cX5_settle 15 = .ok (.getfield 55, 3) := by decide +kernel
theorem dX5_settle_18 : decode cX5_settle 18 = .ok (.if_icmp .gt 102, 3) := by decide +kernel
theorem dX5_settle_21 : decode cX5_settle 21 = .ok (.iconst 0, 1) := by decide +kernel
theorem dX5_settle_22 : decode cX5_settle 22 = .ok (.istore_n 2, 1) := by decide +kernel
theorem dX5_settle_23 : decode cX5_settle 23 = .ok (.iconst 0, 1) := by decide +kernel
theorem dX5_settle_24 : decode cX5_settle 24 = .ok (.istore_n 3, 1) := by decide +kernel
theorem dX5_settle_25 : decode cX5_settle 25 = .ok (.iload_n 3, 1) := by decide +kernel
theorem dX5_settle_26 : decode cX5_settle 26 = .ok (.aload_n 0, 1) := by decide +kernel
theorem dX5_settle_27 : decode cX5_settle 27 = .ok (.getfield 24, 3) := by decide +kernel
theorem dX5_settle_30 : decode cX5_settle 30 = .ok (.getfield 59, 3) := by decide +kernel
theorem dX5_settle_33 : decode cX5_settle 33 = .ok (.if_icmp .ge 75, 3) := by decide +kernel
theorem dX5_settle_36 : decode cX5_settle 36 = .ok (.aload_n 0, 1) := by decide +kernel
theorem dX5_settle_37 : decode cX5_settle 37 = .ok (.getfield 24, 3) := by decide +kernel
theorem dX5_settle_40 : decode cX5_settle 40 = .ok (.getfield 62, 3) := by decide +kernel
theorem dX5_settle_43 : decode cX5_settle 43 = .ok (.iload_n 3, 1) := by decide +kernel
theorem dX5_settle_44 : decode cX5_settle 44 = .ok (.iaload, 1) := by decide +kernel
theorem dX5_settle_45 : decode cX5_settle 45 = .ok (.istore 4, 2) := by decide +kernel
theorem dX5_settle_47 : decode cX5_settle 47 = .ok (.aload_n 0, 1) := by decide +kernel
theorem dX5_settle_48 : decode cX5_settle 48 = .ok (.getfield 24, 3) := by decide +kernel
theorem dX5_settle_51 : decode cX5_settle 51 = .ok (.iload 4, 2) := by decide +kernel
theorem dX5_settle_53 : decode cX5_settle 53 = .ok (.aload_n 0, 1) := by decide +kernel
theorem dX5_settle_54 : decode cX5_settle 54 = .ok (.getfield 18, 3) := by decide +kernel
theorem dX5_settle_57 : decode cX5_settle 57 = .ok (.aload_n 0, 1) := by decide +kernel
theorem dX5_settle_58 : decode cX5_settle 58 = .ok (.getfield 24, 3) := by decide +kernel
theorem dX5_settle_61 : decode cX5_settle 61 = .ok (.getfield 65, 3) := by decide +kernel
theorem dX5_settle_64 : decode cX5_settle 64 = .ok (.iload_n 3, 1) := by decide +kernel
theorem dX5_settle_65 : decode cX5_settle 65 = .ok (.iaload, 1) := by decide +kernel
theorem dX5_settle_66 : decode cX5_settle 66 = .ok (.iaload, 1) := by decide +kernel
theorem dX5_settle_67 : decode cX5_settle 67 = .ok (.aload_n 0, 1) := by decide +kernel
theorem dX5_settle_68 : decode cX5_settle 68 = .ok (.getfield 9, 3) := by decide +kernel
theorem dX5_settle_71 : decode cX5_settle 71 = .ok (.iload_n 3, 1) := by decide +kernel
theorem dX5_settle_72 : decode cX5_settle 72 = .ok (.iaload, 1) := by decide +kernel
theorem dX5_settle_73 : decode cX5_settle 73 = .ok (.iadd, 1) := by decide +kernel
theorem dX5_settle_74 : decode cX5_settle 74 = .ok (.invokevirtual 68, 3) := by decide +kernel
theorem dX5_settle_77 : decode cX5_settle 77 = .ok (.istore 5, 2) := by decide +kernel
theorem dX5_settle_79 : decode cX5_settle 79 = .ok (.iload 5, 2) := by decide +kernel
theorem dX5_settle_81 : decode cX5_settle 81 = .ok (.aload_n 0, 1) := by decide +kernel
theorem dX5_settle_82 : decode cX5_settle 82 = .ok (.getfield 18, 3) := by decide +kernel
theorem dX5_settle_85 : decode cX5_settle 85 = .ok (.iload 4, 2) := by decide +kernel
theorem dX5_settle_87 : decode cX5_settle 87 = .ok (.iaload, 1) := by decide +kernel
theorem dX5_settle_88 : decode cX5_settle 88 = .ok (.if_icmp .le 14, 3) := by decide +kernel
theorem dX5_settle_91 : decode cX5_settle 91 = .ok (.aload_n 0, 1) := by decide +kernel
theorem dX5_settle_92 : decode cX5_settle 92 = .ok (.getfield 18, 3) := by decide +kernel
theorem dX5_settle_95 : decode cX5_settle 95 = .ok (.iload 4, 2) := by decide +kernel
theorem dX5_settle_97 : decode cX5_settle 97 = .ok (.iload 5, 2) := by decide +kernel
theorem dX5_settle_99 : decode cX5_settle 99 = .ok (.iastore, 1) := by decide +kernel
theorem dX5_settle_100 : decode cX5_settle 100 = .ok (.iconst 1, 1) := by decide +kernel
theorem dX5_settle_101 : decode cX5_settle 101 = .ok (.istore_n 2, 1) := by decide +kernel
theorem dX5_settle_102 : decode cX5_settle 102 = .ok (.iinc 3 1, 3) := by decide +kernel
theorem dX5_settle_105 : decode cX5_settle 105 = .ok (.goto (-80), 3) := by decide +kernel
theorem dX5_settle_108 : decode cX5_settle 108 = .ok (.iload_n 2, 1) := by decide +kernel
theorem dX5_settle_109 : decode cX5_settle 109 = .ok (.ifCond .ne 5, 3) := by decide +kernel
theorem dX5_settle_112 : decode cX5_settle 112 = .ok (.iconst 1, 1) := by decide +kernel
theorem dX5_settle_113 : decode cX5_settle 113 = .ok (.ireturn, 1) := by decide +kernel
theorem dX5_settle_114 : decode cX5_settle 114 = .ok (.iinc 1 1, 3) := by decide +kernel
theorem dX5_settle_117 : decode cX5_settle 117 = .ok (.goto (-107), 3) := by decide +kernel
theorem dX5_settle_120 : decode cX5_settle 120 = .ok (.iconst 0, 1) := by decide +kernel
theorem dX5_settle_121 : decode cX5_settle 121 = .ok (.ireturn, 1) := by decide +kernel
theorem dX5_roomOf_0 : decode cX5_roomOf 0 = .ok (.aload_n 0, 1) := by decide +kernel
theorem dX5_roomOf_1 : decode cX5_roomOf 1 = .ok (.getfield 24, 3) := by decide +kernel
theorem dX5_roomOf_4 : decode cX5_roomOf 4 = .ok (.iload_n 1, 1) := by decide +kernel
theorem dX5_roomOf_5 : decode cX5_roomOf 5 = .ok (.aload_n 0, 1) := by decide +kernel
theorem dX5_roomOf_6 : decode cX5_roomOf 6 = .ok (.getfield 21, 3) := by decide +kernel
theorem dX5_roomOf_9 : decode cX5_roomOf 9 = .ok (.iload_n 1, 1) := by decide +kernel
theorem dX5_roomOf_10 : decode cX5_roomOf 10 = .ok (.iaload, 1) := by decide +kernel
theorem dX5_roomOf_11 : decode cX5_roomOf 11 = .ok (.invokevirtual 72, 3) := by decide +kernel
theorem dX5_roomOf_14 : decode cX5_roomOf 14 = .ok (.ireturn, 1) := by decide +kernel
theorem dX5_comesBy_0 : decode cX5_comesBy 0 = .ok (.aload_n 0, 1) := by decide +kernel
theorem dX5_comesBy_1 : decode cX5_comesBy 1 = .ok (.getfield 18, 3) := by decide +kernel
theorem dX5_comesBy_4 : decode cX5_comesBy 4 = .ok (.aload_n 0, 1) := by decide +kernel
theorem dX5_comesBy_5 : decode cX5_comesBy 5 = .ok (.getfield 24, 3) := by decide +kernel
theorem dX5_comesBy_8 : decode cX5_comesBy 8 = .ok (.getfield 65, 3) := by decide +kernel
theorem dX5_comesBy_11 : decode cX5_comesBy 11 = .ok (.iload_n 1, 1) := by decide +kernel
theorem dX5_comesBy_12 : decode cX5_comesBy 12 = .ok (.iaload, 1) := by decide +kernel
theorem dX5_comesBy_13 : decode cX5_comesBy 13 = .ok (.iaload, 1) := by decide +kernel
theorem dX5_comesBy_14 : decode cX5_comesBy 14 = .ok (.aload_n 0, 1) := by decide +kernel
theorem dX5_comesBy_15 : decode cX5_comesBy 15 = .ok (.getfield 9, 3) := by decide +kernel
theorem dX5_comesBy_18 : decode cX5_comesBy 18 = .ok (.iload_n 1, 1) := by decide +kernel
theorem dX5_comesBy_19 : decode cX5_comesBy 19 = .ok (.iaload, 1) := by decide +kernel
theorem dX5_comesBy_20 : decode cX5_comesBy 20 = .ok (.iadd, 1) := by decide +kernel
theorem dX5_comesBy_21 : decode cX5_comesBy 21 = .ok (.ireturn, 1) := by decide +kernel
theorem dX5_latestPath_0 : decode cX5_latestPath 0 = .ok (.iconst 0, 1) := by decide +kernel
theorem dX5_latestPath_1 : decode cX5_latestPath 1 = .ok (.istore_n 2, 1) := by decide +kernel
theorem dX5_latestPath_2 : decode cX5_latestPath 2 = .ok (.iload_n 2, 1) := by decide +kernel
theorem dX5_latestPath_3 : decode cX5_latestPath 3 = .ok (.aload_n 0, 1) := by decide +kernel
theorem dX5_latestPath_4 : decode cX5_latestPath 4 = .ok (.getfield 24, 3) := by decide +kernel
theorem dX5_latestPath_7 : decode cX5_latestPath 7 = .ok (.getfield 59, 3) := by decide +kernel
theorem dX5_latestPath_10 : decode cX5_latestPath 10 = .ok (.if_icmp .ge 38, 3) := by decide +kernel
theorem dX5_latestPath_13 : decode cX5_latestPath 13 = .ok (.aload_n 0, 1) := by decide +kernel
theorem dX5_latestPath_14 : decode cX5_latestPath 14 = .ok (.getfield 24, 3) := by decide +kernel
theorem dX5_latestPath_17 : decode cX5_latestPath 17 = .ok (.getfield 62, 3) := by decide +kernel
theorem dX5_latestPath_20 : decode cX5_latestPath 20 = .ok (.iload_n 2, 1) := by decide +kernel
theorem dX5_latestPath_21 : decode cX5_latestPath 21 = .ok (.iaload, 1) := by decide +kernel
theorem dX5_latestPath_22 : decode cX5_latestPath 22 = .ok (.iload_n 1, 1) := by decide +kernel
theorem dX5_latestPath_23 : decode cX5_latestPath 23 = .ok (.if_icmp .ne 19, 3) := by decide +kernel
theorem dX5_latestPath_26 : decode cX5_latestPath 26 = .ok (.aload_n 0, 1) := by decide +kernel
theorem dX5_latestPath_27 : decode cX5_latestPath 27 = .ok (.iload_n 2, 1) := by decide +kernel
theorem dX5_latestPath_28 : decode cX5_latestPath 28 = .ok (.invokevirtual 75, 3) := by decide +kernel
theorem dX5_latestPath_31 : decode cX5_latestPath 31 = .ok (.aload_n 0, 1) := by decide +kernel
theorem dX5_latestPath_32 : decode cX5_latestPath 32 = .ok (.getfield 21, 3) := by decide +kernel
theorem dX5_latestPath_35 : decode cX5_latestPath 35 = .ok (.iload_n 1, 1) := by decide +kernel
theorem dX5_latestPath_36 : decode cX5_latestPath 36 = .ok (.iaload, 1) := by decide +kernel
theorem dX5_latestPath_37 : decode cX5_latestPath 37 = .ok (.if_icmp .ne 5, 3) := by decide +kernel
theorem dX5_latestPath_40 : decode cX5_latestPath 40 = .ok (.iload_n 2, 1) := by decide +kernel
theorem dX5_latestPath_41 : decode cX5_latestPath 41 = .ok (.ireturn, 1) := by decide +kernel
theorem dX5_latestPath_42 : decode cX5_latestPath 42 = .ok (.iinc 2 1, 3) := by decide +kernel
theorem dX5_latestPath_45 : decode cX5_latestPath 45 = .ok (.goto (-43), 3) := by decide +kernel
theorem dX5_latestPath_48 : decode cX5_latestPath 48 = .ok (.iconst (-1), 1) := by decide +kernel
theorem dX5_latestPath_49 : decode cX5_latestPath 49 = .ok (.ireturn, 1) := by decide +kernel
theorem dX5_chained_0 : decode cX5_chained 0 = .ok (.iconst 0, 1) := by decide +kernel
theorem dX5_chained_1 : decode cX5_chained 1 = .ok (.istore_n 3, 1) := by decide +kernel
theorem dX5_chained_2 : decode cX5_chained 2 = .ok (.iload_n 1, 1) := by decide +kernel
theorem dX5_chained_3 : decode cX5_chained 3 = .ok (.istore 4, 2) := by decide +kernel
theorem dX5_chained_5 : decode cX5_chained 5 = .ok (.iconst 0, 1) := by decide +kernel
theorem dX5_chained_6 : decode cX5_chained 6 = .ok (.istore 5, 2) := by decide +kernel
theorem dX5_chained_8 : decode cX5_chained 8 = .ok (.iload 5, 2) := by decide +kernel
theorem dX5_chained_10 : decode cX5_chained 10 = .ok (.bipush 10, 2) := by decide +kernel
theorem dX5_chained_12 : decode cX5_chained 12 = .ok (.if_icmp .ge 81, 3) := by decide +kernel
theorem dX5_chained_15 : decode cX5_chained 15 = .ok (.iload 5, 2) := by decide +kernel
theorem dX5_chained_17 : decode cX5_chained 17 = .ok (.iload_n 2, 1) := by decide +kernel
theorem dX5_chained_18 : decode cX5_chained 18 = .ok (.if_icmp .ne 6, 3) := by decide +kernel
theorem dX5_chained_21 : decode cX5_chained 21 = .ok (.iload 4, 2) := by decide +kernel
theorem dX5_chained_23 : decode cX5_chained 23 = .ok (.ireturn, 1) := by decide +kernel
theorem dX5_chained_24 : decode cX5_chained 24 = .ok (.iload_n 3, 1) := by decide +kernel
theorem dX5_chained_25 : decode cX5_chained 25 = .ok (.iconst 1, 1) := by decide +kernel
theorem dX5_chained_26 : decode cX5_chained 26 = .ok (.iload 4, 2) := by decide +kernel
theorem dX5_chained_28 : decode cX5_chained 28 = .ok (.ishl, 1) := by decide +kernel
theorem dX5_chained_29 : decode cX5_chained 29 = .ok (.ior, 1) := by decide +kernel
theorem dX5_chained_30 : decode cX5_chained 30 = .ok (.istore_n 3, 1) := by decide +kernel
theorem dX5_chained_31 : decode cX5_chained 31 = .ok (.aload_n 0, 1) := by decide +kernel
theorem dX5_chained_32 : decode cX5_chained 32 = .ok (.iload 4, 2) := by decide +kernel
theorem dX5_chained_34 : decode cX5_chained 34 = .ok (.invokevirtual 79, 3) := by decide +kernel
theorem dX5_chained_37 : decode cX5_chained 37 = .ok (.istore 6, 2) := by decide +kernel
theorem dX5_chained_39 : decode cX5_chained 39 = .ok (.iload 6, 2) := by decide +kernel
theorem dX5_chained_41 : decode cX5_chained 41 = .ok (.iconst (-1), 1) := by decide +kernel
theorem dX5_chained_42 : decode cX5_chained 42 = .ok (.if_icmp .eq 18, 3) := by decide +kernel
theorem dX5_chained_45 : decode cX5_chained 45 = .ok (.iload 5, 2) := by decide +kernel
theorem dX5_chained_47 : decode cX5_chained 47 = .ok (.ifCond .le 16, 3) := by decide +kernel
theorem dX5_chained_50 : decode cX5_chained 50 = .ok (.aload_n 0, 1) := by decide +kernel
theorem dX5_chained_51 : decode cX5_chained 51 = .ok (.getfield 18, 3) := by decide +kernel
theorem dX5_chained_54 : decode cX5_chained 54 = .ok (.iload 4, 2) := by decide +kernel
theorem dX5_chained_56 : decode cX5_chained 56 = .ok (.iaload, 1) := by decide +kernel
theorem dX5_chained_57 : decode cX5_chained 57 = .ok (.ifCond .ne 6, 3) := by decide +kernel
theorem dX5_chained_60 : decode cX5_chained 60 = .ok (.bipush (-2), 2) := by decide +kernel
theorem dX5_chained_62 : decode cX5_chained 62 = .ok (.ireturn, 1) := by decide +kernel
theorem dX5_chained_63 : decode cX5_chained 63 = .ok (.aload_n 0, 1) := by decide +kernel
theorem dX5_chained_64 : decode cX5_chained 64 = .ok (.getfield 24, 3) := by decide +kernel
theorem dX5_chained_67 : decode cX5_chained 67 = .ok (.getfield 65, 3) := by decide +kernel
theorem dX5_chained_70 : decode cX5_chained 70 = .ok (.iload 6, 2) := by decide +kernel
theorem dX5_chained_72 : decode cX5_chained 72 = .ok (.iaload, 1) := by decide +kernel
theorem dX5_chained_73 : decode cX5_chained 73 = .ok (.istore 4, 2) := by decide +kernel
theorem dX5_chained_75 : decode cX5_chained 75 = .ok (.iload_n 3, 1) := by decide +kernel
theorem dX5_chained_76 : decode cX5_chained 76 = .ok (.iload 4, 2) := by decide +kernel
theorem dX5_chained_78 : decode cX5_chained 78 = .ok (.ishr, 1) := by decide +kernel
theorem dX5_chained_79 : decode cX5_chained 79 = .ok (.iconst 1, 1) := by decide +kernel
theorem dX5_chained_80 : decode cX5_chained 80 = .ok (.iand, 1) := by decide +kernel
theorem dX5_chained_81 : decode cX5_chained 81 = .ok (.ifCond .eq 6, 3) := by decide +kernel
theorem dX5_chained_84 : decode cX5_chained 84 = .ok (.bipush (-2), 2) := by decide +kernel
theorem dX5_chained_86 : decode cX5_chained 86 = .ok (.ireturn, 1) := by decide +kernel
theorem dX5_chained_87 : decode cX5_chained 87 = .ok (.iinc 5 1, 3) := by decide +kernel
theorem dX5_chained_90 : decode cX5_chained 90 = .ok (.goto (-82), 3) := by decide +kernel
theorem dX5_chained_93 : decode cX5_chained 93 = .ok (.bipush (-2), 2) := by decide +kernel
theorem dX5_chained_95 : decode cX5_chained 95 = .ok (.ireturn, 1) := by decide +kernel
theorem dX5_borrowing_0 : decode cX5_borrowing 0 = .ok (.iconst 0, 1) := by decide +kernel
theorem dX5_borrowing_1 : decode cX5_borrowing 1 = .ok (.istore_n 1, 1) := by decide +kernel
theorem dX5_borrowing_2 : decode cX5_borrowing 2 = .ok (.iconst 0, 1) := by decide +kernel
theorem dX5_borrowing_3 : decode cX5_borrowing 3 = .ok (.istore_n 2, 1) := by decide +kernel
theorem dX5_borrowing_4 : decode cX5_borrowing 4 = .ok (.iload_n 2, 1) := by decide +kernel
theorem dX5_borrowing_5 : decode cX5_borrowing 5 = .ok (.aload_n 0, 1) := by decide +kernel
theorem dX5_borrowing_6 : decode cX5_borrowing 6 = .ok (.getfield 24, 3) := by decide +kernel
theorem dX5_borrowing_9 : decode cX5_borrowing 9 = .ok (.getfield 55, 3) := by decide +kernel
theorem dX5_borrowing_12 : decode cX5_borrowing 12 = .ok (.if_icmp .ge 28, 3) := by decide +kernel
theorem dX5_borrowing_15 : decode cX5_borrowing 15 = .ok (.iload_n 1, 1) := by decide +kernel
theorem dX5_borrowing_16 : decode cX5_borrowing 16 = .ok (.aload_n 0, 1) := by decide +kernel
theorem dX5_borrowing_17 : decode cX5_borrowing 17 = .ok (.getfield 18, 3) := by decide +kernel
theorem dX5_borrowing_20 : decode cX5_borrowing 20 = .ok (.iload_n 2, 1) := by decide +kernel
theorem dX5_borrowing_21 : decode cX5_borrowing 21 = .ok (.iaload, 1) := by decide +kernel
theorem dX5_borrowing_22 : decode cX5_borrowing 22 = .ok (.ifCond .le 9, 3) := by decide +kernel
theorem dX5_borrowing_25 : decode cX5_borrowing 25 = .ok (.iconst 1, 1) := by decide +kernel
theorem dX5_borrowing_26 : decode cX5_borrowing 26 = .ok (.iload_n 2, 1) := by decide +kernel
theorem dX5_borrowing_27 : decode cX5_borrowing 27 = .ok (.ishl, 1) := by decide +kernel
theorem dX5_borrowing_28 : decode cX5_borrowing 28 = .ok (.goto 4, 3) := by decide +kernel
theorem dX5_borrowing_31 : decode cX5_borrowing 31 = .ok (.iconst 0, 1) := by decide +kernel
theorem dX5_borrowing_32 : decode cX5_borrowing 32 = .ok (.ior, 1) := by decide +kernel
theorem dX5_borrowing_33 : decode cX5_borrowing 33 = .ok (.istore_n 1, 1) := by decide +kernel
theorem dX5_borrowing_34 : decode cX5_borrowing 34 = .ok (.iinc 2 1, 3) := by decide +kernel
theorem dX5_borrowing_37 : decode cX5_borrowing 37 = .ok (.goto (-33), 3) := by decide +kernel
theorem dX5_borrowing_40 : decode cX5_borrowing 40 = .ok (.iload_n 1, 1) := by decide +kernel
theorem dX5_borrowing_41 : decode cX5_borrowing 41 = .ok (.ireturn, 1) := by decide +kernel
theorem dX5_unmet_0 : decode cX5_unmet 0 = .ok (.iconst 0, 1) := by decide +kernel
theorem dX5_unmet_1 : decode cX5_unmet 1 = .ok (.istore_n 1, 1) := by decide +kernel
theorem dX5_unmet_2 : decode cX5_unmet 2 = .ok (.iconst 0, 1) := by decide +kernel
theorem dX5_unmet_3 : decode cX5_unmet 3 = .ok (.istore_n 2, 1) := by decide +kernel
theorem dX5_unmet_4 : decode cX5_unmet 4 = .ok (.iload_n 2, 1) := by decide +kernel
theorem dX5_unmet_5 : decode cX5_unmet 5 = .ok (.aload_n 0, 1) := by decide +kernel
theorem dX5_unmet_6 : decode cX5_unmet 6 = .ok (.getfield 24, 3) := by decide +kernel
theorem dX5_unmet_9 : decode cX5_unmet 9 = .ok (.getfield 55, 3) := by decide +kernel
theorem dX5_unmet_12 : decode cX5_unmet 12 = .ok (.if_icmp .ge 27, 3) := by decide +kernel
theorem dX5_unmet_15 : decode cX5_unmet 15 = .ok (.iload_n 1, 1) := by decide +kernel
theorem dX5_unmet_16 : decode cX5_unmet 16 = .ok (.aload_n 0, 1) := by decide +kernel
theorem dX5_unmet_17 : decode cX5_unmet 17 = .ok (.iload_n 2, 1) := by decide +kernel
theorem dX5_unmet_18 : decode cX5_unmet 18 = .ok (.invokevirtual 82, 3) := by decide +kernel
theorem dX5_unmet_21 : decode cX5_unmet 21 = .ok (.ifCond .ge 9, 3) := by decide +kernel
theorem dX5_unmet_24 : decode cX5_unmet 24 = .ok (.iconst 1, 1) := by decide +kernel
theorem dX5_unmet_25 : decode cX5_unmet 25 = .ok (.iload_n 2, 1) := by decide +kernel
theorem dX5_unmet_26 : decode cX5_unmet 26 = .ok (.ishl, 1) := by decide +kernel
theorem dX5_unmet_27 : decode cX5_unmet 27 = .ok (.goto 4, 3) := by decide +kernel
theorem dX5_unmet_30 : decode cX5_unmet 30 = .ok (.iconst 0, 1) := by decide +kernel
theorem dX5_unmet_31 : decode cX5_unmet 31 = .ok (.ior, 1) := by decide +kernel
theorem dX5_unmet_32 : decode cX5_unmet 32 = .ok (.istore_n 1, 1) := by decide +kernel
theorem dX5_unmet_33 : decode cX5_unmet 33 = .ok (.iinc 2 1, 3) := by decide +kernel
theorem dX5_unmet_36 : decode cX5_unmet 36 = .ok (.goto (-32), 3) := by decide +kernel
theorem dX5_unmet_39 : decode cX5_unmet 39 = .ok (.iload_n 1, 1) := by decide +kernel
theorem dX5_unmet_40 : decode cX5_unmet 40 = .ok (.ireturn, 1) := by decide +kernel
theorem dX5_narrowest_0 : decode cX5_narrowest 0 = .ok (.iconst 1, 1) := by decide +kernel
theorem dX5_narrowest_1 : decode cX5_narrowest 1 = .ok (.istore_n 2, 1) := by decide +kernel
theorem dX5_narrowest_2 : decode cX5_narrowest 2 = .ok (.iconst 0, 1) := by decide +kernel
theorem dX5_narrowest_3 : decode cX5_narrowest 3 = .ok (.istore_n 3, 1) := by decide +kernel
theorem dX5_narrowest_4 : decode cX5_narrowest 4 = .ok (.iload_n 3, 1) := by decide +kernel
theorem dX5_narrowest_5 : decode cX5_narrowest 5 = .ok (.aload_n 0, 1) := by decide +kernel
theorem dX5_narrowest_6 : decode cX5_narrowest 6 = .ok (.getfield 24, 3) := by decide +kernel
theorem dX5_narrowest_9 : decode cX5_narrowest 9 = .ok (.getfield 55, 3) := by decide +kernel
theorem dX5_narrowest_12 : decode cX5_narrowest 12 = .ok (.if_icmp .ge 81, 3) := by decide +kernel
theorem dX5_narrowest_15 : decode cX5_narrowest 15 = .ok (.aload_n 0, 1) := by decide +kernel
theorem dX5_narrowest_16 : decode cX5_narrowest 16 = .ok (.getfield 24, 3) := by decide +kernel
theorem dX5_narrowest_19 : decode cX5_narrowest 19 = .ok (.getfield 85, 3) := by decide +kernel
theorem dX5_narrowest_22 : decode cX5_narrowest 22 = .ok (.iload_n 3, 1) := by decide +kernel
theorem dX5_narrowest_23 : decode cX5_narrowest 23 = .ok (.iaload, 1) := by decide +kernel
theorem dX5_narrowest_24 : decode cX5_narrowest 24 = .ok (.iload_n 1, 1) := by decide +kernel
theorem dX5_narrowest_25 : decode cX5_narrowest 25 = .ok (.if_icmp .ne 51, 3) := by decide +kernel
theorem dX5_narrowest_28 : decode cX5_narrowest 28 = .ok (.aload_n 0, 1) := by decide +kernel
theorem dX5_narrowest_29 : decode cX5_narrowest 29 = .ok (.getfield 24, 3) := by decide +kernel
theorem dX5_narrowest_32 : decode cX5_narrowest 32 = .ok (.iload_n 3, 1) := by decide +kernel
theorem dX5_narrowest_33 : decode cX5_narrowest 33 = .ok (.invokevirtual 88, 3) := by decide +kernel
theorem dX5_narrowest_36 : decode cX5_narrowest 36 = .ok (.ifCond .ne 40, 3) := by decide +kernel
theorem dX5_narrowest_39 : decode cX5_narrowest 39 = .ok (.iload_n 2, 1) := by decide +kernel
theorem dX5_narrowest_40 : decode cX5_narrowest 40 = .ok (.aload_n 0, 1) := by decide +kernel
theorem dX5_narrowest_41 : decode cX5_narrowest 41 = .ok (.getfield 18, 3) := by decide +kernel
theorem dX5_narrowest_44 : decode cX5_narrowest 44 = .ok (.iload_n 3, 1) := by decide +kernel
theorem dX5_narrowest_45 : decode cX5_narrowest 45 = .ok (.iaload, 1) := by decide +kernel
theorem dX5_narrowest_46 : decode cX5_narrowest 46 = .ok (.bipush 64, 2) := by decide +kernel
theorem dX5_narrowest_48 : decode cX5_narrowest 48 = .ok (.aload_n 0, 1) := by decide +kernel
theorem dX5_narrowest_49 : decode cX5_narrowest 49 = .ok (.getfield 24, 3) := by decide +kernel
theorem dX5_narrowest_52 : decode cX5_narrowest 52 = .ok (.getfield 92, 3) := by decide +kernel
theorem dX5_narrowest_55 : decode cX5_narrowest 55 = .ok (.iload_n 3, 1) := by decide +kernel
theorem dX5_narrowest_56 : decode cX5_narrowest 56 = .ok (.iaload, 1) := by decide +kernel
theorem dX5_narrowest_57 : decode cX5_narrowest 57 = .ok (.imul, 1) := by decide +kernel
theorem dX5_narrowest_58 : decode cX5_narrowest 58 = .ok (.iadd, 1) := by decide +kernel
theorem dX5_narrowest_59 : decode cX5_narrowest 59 = .ok (.aload_n 0, 1) := by decide +kernel
theorem dX5_narrowest_60 : decode cX5_narrowest 60 = .ok (.getfield 24, 3) := by decide +kernel
theorem dX5_narrowest_63 : decode cX5_narrowest 63 = .ok (.getfield 95, 3) := by decide +kernel
theorem dX5_narrowest_66 : decode cX5_narrowest 66 = .ok (.invokestatic 98, 3) := by decide +kernel
theorem dX5_narrowest_69 : decode cX5_narrowest 69 = .ok (.invokestatic 101, 3) := by decide +kernel
theorem dX5_narrowest_72 : decode cX5_narrowest 72 = .ok (.istore_n 2, 1) := by decide +kernel
theorem dX5_narrowest_73 : decode cX5_narrowest 73 = .ok (.goto 14, 3) := by decide +kernel
theorem dX5_narrowest_76 : decode cX5_narrowest 76 = .ok (.aload_n 0, 1) := by decide +kernel
theorem dX5_narrowest_77 : decode cX5_narrowest 77 = .ok (.iload_n 3, 1) := by decide +kernel
theorem dX5_narrowest_78 : decode cX5_narrowest 78 = .ok (.invokevirtual 82, 3) := by decide +kernel
theorem dX5_narrowest_81 : decode cX5_narrowest 81 = .ok (.ifCond .ge 6, 3) := by decide +kernel
theorem dX5_narrowest_84 : decode cX5_narrowest 84 = .ok (.bipush (-2), 2) := by decide +kernel
theorem dX5_narrowest_86 : decode cX5_narrowest 86 = .ok (.ireturn, 1) := by decide +kernel
theorem dX5_narrowest_87 : decode cX5_narrowest 87 = .ok (.iinc 3 1, 3) := by decide +kernel
theorem dX5_narrowest_90 : decode cX5_narrowest 90 = .ok (.goto (-86), 3) := by decide +kernel
theorem dX5_narrowest_93 : decode cX5_narrowest 93 = .ok (.iload_n 2, 1) := by decide +kernel
theorem dX5_narrowest_94 : decode cX5_narrowest 94 = .ok (.bipush 64, 2) := by decide +kernel
theorem dX5_narrowest_96 : decode cX5_narrowest 96 = .ok (.if_icmp .ge 7, 3) := by decide +kernel
theorem dX5_narrowest_99 : decode cX5_narrowest 99 = .ok (.iload_n 2, 1) := by decide +kernel
theorem dX5_narrowest_100 : decode cX5_narrowest 100 = .ok (.goto 5, 3) := by decide +kernel
theorem dX5_narrowest_103 : decode cX5_narrowest 103 = .ok (.bipush (-2), 2) := by decide +kernel
theorem dX5_narrowest_105 : decode cX5_narrowest 105 = .ok (.ireturn, 1) := by decide +kernel
theorem dX5_possibleFlops_0 : decode cX5_possibleFlops 0 = .ok (.iconst 0, 1) := by decide +kernel
theorem dX5_possibleFlops_1 : decode cX5_possibleFlops 1 = .ok (.istore_n 1, 1) := by decide +kernel
theorem dX5_possibleFlops_2 : decode cX5_possibleFlops 2 = .ok (.iconst 0, 1) := by decide +kernel
theorem dX5_possibleFlops_3 : decode cX5_possibleFlops 3 = .ok (.istore_n 2, 1) := by decide +kernel
theorem dX5_possibleFlops_4 : decode cX5_possibleFlops 4 = .ok (.iload_n 2, 1) := by decide +kernel
theorem dX5_possibleFlops_5 : decode cX5_possibleFlops 5 = .ok (.aload_n 0, 1) := by decide +kernel
theorem dX5_possibleFlops_6 : decode cX5_possibleFlops 6 = .ok (.getfield 24, 3) := by decide +kernel
theorem dX5_possibleFlops_9 : decode cX5_possibleFlops 9 = .ok (.getfield 55, 3) := by decide +kernel
theorem dX5_possibleFlops_12 : decode cX5_possibleFlops 12 = .ok (.if_icmp .ge 70, 3) := by decide +kernel
theorem dX5_possibleFlops_15 : decode cX5_possibleFlops 15 = .ok (.aload_n 0, 1) := by decide +kernel
theorem dX5_possibleFlops_16 : decode cX5_possibleFlops 16 = .ok (.iload_n 2, 1) := by decide +kernel
theorem dX5_possibleFlops_17 : decode cX5_possibleFlops 17 = .ok (.invokevirtual 79, 3) := by decide +kernel
theorem dX5_possibleFlops_20 : decode cX5_possibleFlops 20 = .ok (.iconst (-1), 1) := by decide +kernel
theorem dX5_possibleFlops_21 : decode cX5_possibleFlops 21 = .ok (.if_icmp .eq 24, 3) := by decide +kernel
theorem dX5_possibleFlops_24 : decode cX5_possibleFlops 24 = .ok (.aload_n 0, 1) := by decide +kernel
theorem dX5_possibleFlops_25 : decode cX5_possibleFlops 25 = .ok (.getfield 21, 3) := by decide +kernel
theorem dX5_possibleFlops_28 : decode cX5_possibleFlops 28 = .ok (.iload_n 2, 1) := by decide +kernel
theorem dX5_possibleFlops_29 : decode cX5_possibleFlops 29 = .ok (.iaload, 1) := by decide +kernel
theorem dX5_possibleFlops_30 : decode cX5_possibleFlops 30 = .ok (.bipush (-64), 2) := by decide +kernel
theorem dX5_possibleFlops_32 : decode cX5_possibleFlops 32 = .ok (.aload_n 0, 1) := by decide +kernel
theorem dX5_possibleFlops_33 : decode cX5_possibleFlops 33 = .ok (.getfield 24, 3) := by decide +kernel
theorem dX5_possibleFlops_36 : decode cX5_possibleFlops 36 = .ok (.getfield 92, 3) := by decide +kernel
theorem dX5_possibleFlops_39 : decode cX5_possibleFlops 39 = .ok (.iload_n 2, 1) := by decide +kernel
theorem dX5_possibleFlops_40 : decode cX5_possibleFlops 40 = .ok (.iaload, 1) := by decide +kernel
theorem dX5_possibleFlops_41 : decode cX5_possibleFlops 41 = .ok (.imul, 1) := by decide +kernel
theorem dX5_possibleFlops_42 : decode cX5_possibleFlops 42 = .ok (.if_icmp .gt 7, 3) := by decide +kernel
theorem dX5_possibleFlops_45 : decode cX5_possibleFlops 45 = .ok (.iconst 1, 1) := by decide +kernel
theorem dX5_possibleFlops_46 : decode cX5_possibleFlops 46 = .ok (.goto 4, 3) := by decide +kernel
theorem dX5_possibleFlops_49 : decode cX5_possibleFlops 49 = .ok (.iconst 0, 1) := by decide +kernel
theorem dX5_possibleFlops_50 : decode cX5_possibleFlops 50 = .ok (.istore_n 3, 1) := by decide +kernel
theorem dX5_possibleFlops_51 : decode cX5_possibleFlops 51 = .ok (.iload_n 1, 1) := by decide +kernel
theorem dX5_possibleFlops_52 : decode cX5_possibleFlops 52 = .ok (.aload_n 0, 1) := by decide +kernel
theorem dX5_possibleFlops_53 : decode cX5_possibleFlops 53 = .ok (.getfield 24, 3) := by decide +kernel
theorem dX5_possibleFlops_56 : decode cX5_possibleFlops 56 = .ok (.iload_n 2, 1) := by decide +kernel
theorem dX5_possibleFlops_57 : decode cX5_possibleFlops 57 = .ok (.invokevirtual 88, 3) := by decide +kernel
theorem dX5_possibleFlops_60 : decode cX5_possibleFlops 60 = .ok (.ifCond .ne 13, 3) := by decide +kernel
theorem dX5_possibleFlops_63 : decode cX5_possibleFlops 63 = .ok (.iload_n 3, 1) := by decide +kernel
theorem dX5_possibleFlops_64 : decode cX5_possibleFlops 64 = .ok (.ifCond .eq 9, 3) := by decide +kernel
theorem dX5_possibleFlops_67 : decode cX5_possibleFlops 67 = .ok (.iconst 1, 1) := by decide +kernel
theorem dX5_possibleFlops_68 : decode cX5_possibleFlops 68 = .ok (.iload_n 2, 1) := by decide +kernel
theorem dX5_possibleFlops_69 : decode cX5_possibleFlops 69 = .ok (.ishl, 1) := by decide +kernel
theorem dX5_possibleFlops_70 : decode cX5_possibleFlops 70 = .ok (.goto 4, 3) := by decide +kernel
theorem dX5_possibleFlops_73 : decode cX5_possibleFlops 73 = .ok (.iconst 0, 1) := by decide +kernel
theorem dX5_possibleFlops_74 : decode cX5_possibleFlops 74 = .ok (.ior, 1) := by decide +kernel
theorem dX5_possibleFlops_75 : decode cX5_possibleFlops 75 = .ok (.istore_n 1, 1) := by decide +kernel
theorem dX5_possibleFlops_76 : decode cX5_possibleFlops 76 = .ok (.iinc 2 1, 3) := by decide +kernel
theorem dX5_possibleFlops_79 : decode cX5_possibleFlops 79 = .ok (.goto (-75), 3) := by decide +kernel
theorem dX5_possibleFlops_82 : decode cX5_possibleFlops 82 = .ok (.iload_n 1, 1) := by decide +kernel
theorem dX5_possibleFlops_83 : decode cX5_possibleFlops 83 = .ok (.ireturn, 1) := by decide +kernel
theorem dX5_roomBy_0 : decode cX5_roomBy 0 = .ok (.aload_n 0, 1) := by decide +kernel
theorem dX5_roomBy_1 : decode cX5_roomBy 1 = .ok (.getfield 24, 3) := by decide +kernel
theorem dX5_roomBy_4 : decode cX5_roomBy 4 = .ok (.aload_n 0, 1) := by decide +kernel
theorem dX5_roomBy_5 : decode cX5_roomBy 5 = .ok (.getfield 24, 3) := by decide +kernel
theorem dX5_roomBy_8 : decode cX5_roomBy 8 = .ok (.getfield 62, 3) := by decide +kernel
theorem dX5_roomBy_11 : decode cX5_roomBy 11 = .ok (.iload_n 1, 1) := by decide +kernel
theorem dX5_roomBy_12 : decode cX5_roomBy 12 = .ok (.iaload, 1) := by decide +kernel
theorem dX5_roomBy_13 : decode cX5_roomBy 13 = .ok (.aload_n 0, 1) := by decide +kernel
theorem dX5_roomBy_14 : decode cX5_roomBy 14 = .ok (.iload_n 1, 1) := by decide +kernel
theorem dX5_roomBy_15 : decode cX5_roomBy 15 = .ok (.invokevirtual 75, 3) := by decide +kernel
theorem dX5_roomBy_18 : decode cX5_roomBy 18 = .ok (.invokevirtual 72, 3) := by decide +kernel
theorem dX5_roomBy_21 : decode cX5_roomBy 21 = .ok (.ireturn, 1) := by decide +kernel
theorem dX5_pathByRoom_0 : decode cX5_pathByRoom 0 = .ok (.iconst 0, 1) := by decide +kernel
theorem dX5_pathByRoom_1 : decode cX5_pathByRoom 1 = .ok (.istore_n 2, 1) := by decide +kernel
theorem dX5_pathByRoom_2 : decode cX5_pathByRoom 2 = .ok (.iload_n 2, 1) := by decide +kernel
theorem dX5_pathByRoom_3 : decode cX5_pathByRoom 3 = .ok (.aload_n 0, 1) := by decide +kernel
theorem dX5_pathByRoom_4 : decode cX5_pathByRoom 4 = .ok (.getfield 24, 3) := by decide +kernel
theorem dX5_pathByRoom_7 : decode cX5_pathByRoom 7 = .ok (.getfield 59, 3) := by decide +kernel
theorem dX5_pathByRoom_10 : decode cX5_pathByRoom 10 = .ok (.if_icmp .ge 20, 3) := by decide +kernel
theorem dX5_pathByRoom_13 : decode cX5_pathByRoom 13 = .ok (.aload_n 0, 1) := by decide +kernel
theorem dX5_pathByRoom_14 : decode cX5_pathByRoom 14 = .ok (.getfield 15, 3) := by decide +kernel
theorem dX5_pathByRoom_17 : decode cX5_pathByRoom 17 = .ok (.iload_n 2, 1) := by decide +kernel
theorem dX5_pathByRoom_18 : decode cX5_pathByRoom 18 = .ok (.aload_n 0, 1) := by decide +kernel
theorem dX5_pathByRoom_19 : decode cX5_pathByRoom 19 = .ok (.iload_n 2, 1) := by decide +kernel
theorem dX5_pathByRoom_20 : decode cX5_pathByRoom 20 = .ok (.invokevirtual 106, 3) := by decide +kernel
theorem dX5_pathByRoom_23 : decode cX5_pathByRoom 23 = .ok (.iastore, 1) := by decide +kernel
theorem dX5_pathByRoom_24 : decode cX5_pathByRoom 24 = .ok (.iinc 2 1, 3) := by decide +kernel
theorem dX5_pathByRoom_27 : decode cX5_pathByRoom 27 = .ok (.goto (-25), 3) := by decide +kernel
theorem dX5_pathByRoom_30 : decode cX5_pathByRoom 30 = .ok (.iconst 0, 1) := by decide +kernel
theorem dX5_pathByRoom_31 : decode cX5_pathByRoom 31 = .ok (.istore_n 2, 1) := by decide +kernel
theorem dX5_pathByRoom_32 : decode cX5_pathByRoom 32 = .ok (.iload_n 2, 1) := by decide +kernel
theorem dX5_pathByRoom_33 : decode cX5_pathByRoom 33 = .ok (.aload_n 0, 1) := by decide +kernel
theorem dX5_pathByRoom_34 : decode cX5_pathByRoom 34 = .ok (.getfield 24, 3) := by decide +kernel
theorem dX5_pathByRoom_37 : decode cX5_pathByRoom 37 = .ok (.getfield 59, 3) := by decide +kernel
theorem dX5_pathByRoom_40 : decode cX5_pathByRoom 40 = .ok (.if_icmp .ge 80, 3) := by decide +kernel
theorem dX5_pathByRoom_43 : decode cX5_pathByRoom 43 = .ok (.iconst 0, 1) := by decide +kernel
theorem dX5_pathByRoom_44 : decode cX5_pathByRoom 44 = .ok (.istore_n 3, 1) := by decide +kernel
theorem dX5_pathByRoom_45 : decode cX5_pathByRoom 45 = .ok (.iconst 0, 1) := by decide +kernel
theorem dX5_pathByRoom_46 : decode cX5_pathByRoom 46 = .ok (.istore 4, 2) := by decide +kernel
theorem dX5_pathByRoom_48 : decode cX5_pathByRoom 48 = .ok (.iload 4, 2) := by decide +kernel
theorem dX5_pathByRoom_50 : decode cX5_pathByRoom 50 = .ok (.aload_n 0, 1) := by decide +kernel
theorem dX5_pathByRoom_51 : decode cX5_pathByRoom 51 = .ok (.getfield 24, 3) := by decide +kernel
theorem dX5_pathByRoom_54 : decode cX5_pathByRoom 54 = .ok (.getfield 59, 3) := by decide +kernel
theorem dX5_pathByRoom_57 : decode cX5_pathByRoom 57 = .ok (.if_icmp .ge 50, 3) := by decide +kernel
theorem dX5_pathByRoom_60 : decode cX5_pathByRoom 60 = .ok (.aload_n 0, 1) := by decide +kernel
theorem dX5_pathByRoom_61 : decode cX5_pathByRoom 61 = .ok (.getfield 15, 3) := by decide +kernel
theorem dX5_pathByRoom_64 : decode cX5_pathByRoom 64 = .ok (.iload 4, 2) := by decide +kernel
theorem dX5_pathByRoom_66 : decode cX5_pathByRoom 66 = .ok (.iaload, 1) := by decide +kernel
theorem dX5_pathByRoom_67 : decode cX5_pathByRoom 67 = .ok (.aload_n 0, 1) := by decide +kernel
theorem dX5_pathByRoom_68 : decode cX5_pathByRoom 68 = .ok (.getfield 15, 3) := by decide +kernel
theorem dX5_pathByRoom_71 : decode cX5_pathByRoom 71 = .ok (.iload_n 2, 1) := by decide +kernel
theorem dX5_pathByRoom_72 : decode cX5_pathByRoom 72 = .ok (.iaload, 1) := by decide +kernel
theorem dX5_pathByRoom_73 : decode cX5_pathByRoom 73 = .ok (.if_icmp .lt 25, 3) := by decide +kernel
theorem dX5_pathByRoom_76 : decode cX5_pathByRoom 76 = .ok (.aload_n 0, 1) := by decide +kernel
theorem dX5_pathByRoom_77 : decode cX5_pathByRoom 77 = .ok (.getfield 15, 3) := by decide +kernel
theorem dX5_pathByRoom_80 : decode cX5_pathByRoom 80 = .ok (.iload 4, 2) := by decide +kernel
theorem dX5_pathByRoom_82 : decode cX5_pathByRoom 82 = .ok (.iaload, 1) := by decide +kernel
theorem dX5_pathByRoom_83 : decode cX5_pathByRoom 83 = .ok (.aload_n 0, 1) := by decide +kernel
theorem dX5_pathByRoom_84 : decode cX5_pathByRoom 84 = .ok (.getfield 15, 3) := by decide +kernel
theorem dX5_pathByRoom_87 : decode cX5_pathByRoom 87 = .ok (.iload_n 2, 1) := by decide +kernel
theorem dX5_pathByRoom_88 : decode cX5_pathByRoom 88 = .ok (.iaload, 1) := by decide +kernel
theorem dX5_pathByRoom_89 : decode cX5_pathByRoom 89 = .ok (.if_icmp .ne 12, 3) := by decide +kernel
theorem dX5_pathByRoom_92 : decode cX5_pathByRoom 92 = .ok (.iload 4, 2) := by decide +kernel
theorem dX5_pathByRoom_94 : decode cX5_pathByRoom 94 = .ok (.iload_n 2, 1) := by decide +kernel
theorem dX5_pathByRoom_95 : decode cX5_pathByRoom 95 = .ok (.if_icmp .ge 6, 3) := by decide +kernel
theorem dX5_pathByRoom_98 : decode cX5_pathByRoom 98 = .ok (.iinc 3 1, 3) := by decide +kernel
theorem dX5_pathByRoom_101 : decode cX5_pathByRoom 101 = .ok (.iinc 4 1, 3) := by decide +kernel
theorem dX5_pathByRoom_104 : decode cX5_pathByRoom 104 = .ok (.goto (-56), 3) := by decide +kernel
theorem dX5_pathByRoom_107 : decode cX5_pathByRoom 107 = .ok (.iload_n 3, 1) := by decide +kernel
theorem dX5_pathByRoom_108 : decode cX5_pathByRoom 108 = .ok (.iload_n 1, 1) := by decide +kernel
theorem dX5_pathByRoom_109 : decode cX5_pathByRoom 109 = .ok (.if_icmp .ne 5, 3) := by decide +kernel
theorem dX5_pathByRoom_112 : decode cX5_pathByRoom 112 = .ok (.iload_n 2, 1) := by decide +kernel
theorem dX5_pathByRoom_113 : decode cX5_pathByRoom 113 = .ok (.ireturn, 1) := by decide +kernel
theorem dX5_pathByRoom_114 : decode cX5_pathByRoom 114 = .ok (.iinc 2 1, 3) := by decide +kernel
theorem dX5_pathByRoom_117 : decode cX5_pathByRoom 117 = .ok (.goto (-85), 3) := by decide +kernel
theorem dX5_pathByRoom_120 : decode cX5_pathByRoom 120 = .ok (.bipush (-2), 2) := by decide +kernel
theorem dX5_pathByRoom_122 : decode cX5_pathByRoom 122 = .ok (.ireturn, 1) := by decide +kernel
theorem dX6_init_0 : decode cX6_init 0 = .ok (.aload_n 0, 1) := by decide +kernel
theorem dX6_init_1 : decode cX6_init 1 = .ok (.invokespecial 3, 3) := by decide +kernel
theorem dX6_init_4 : decode cX6_init 4 = .ok (.aload_n 0, 1) := by decide +kernel
theorem dX6_init_5 : decode cX6_init 5 = .ok (.bipush 24, 2) := by decide +kernel
theorem dX6_init_7 : decode cX6_init 7 = .ok (.newarray .int, 2) := by decide +kernel
theorem dX6_init_9 : decode cX6_init 9 = .ok (.putfield 9, 3) := by decide +kernel
theorem dX6_init_12 : decode cX6_init 12 = .ok (.aload_n 0, 1) := by decide +kernel
theorem dX6_init_13 : decode cX6_init 13 = .ok (.bipush 24, 2) := by decide +kernel
theorem dX6_init_15 : decode cX6_init 15 = .ok (.newarray .int, 2) := by decide +kernel
theorem dX6_init_17 : decode cX6_init 17 = .ok (.putfield 15, 3) := by decide +kernel
theorem dX6_init_20 : decode cX6_init 20 = .ok (.aload_n 0, 1) := by decide +kernel
theorem dX6_init_21 : decode cX6_init 21 = .ok (.bipush 24, 2) := by decide +kernel
theorem dX6_init_23 : decode cX6_init 23 = .ok (.newarray .int, 2) := by decide +kernel
theorem dX6_init_25 : decode cX6_init 25 = .ok (.putfield 18, 3) := by decide +kernel
theorem dX6_init_28 : decode cX6_init 28 = .ok (.aload_n 0, 1) := by decide +kernel
theorem dX6_init_29 : decode cX6_init 29 = .ok (.bipush 10, 2) := by decide +kernel
theorem dX6_init_31 : decode cX6_init 31 = .ok (.newarray .int, 2) := by decide +kernel
theorem dX6_init_33 : decode cX6_init 33 = .ok (.putfield 21, 3) := by decide +kernel
theorem dX6_init_36 : decode cX6_init 36 = .ok (.aload_n 0, 1) := by decide +kernel
theorem dX6_init_37 : decode cX6_init 37 = .ok (.bipush 10, 2) := by decide +kernel
theorem dX6_init_39 : decode cX6_init 39 = .ok (.newarray .int, 2) := by decide +kernel
theorem dX6_init_41 : decode cX6_init 41 = .ok (.putfield 24, 3) := by decide +kernel
theorem dX6_init_44 : decode cX6_init 44 = .ok (.aload_n 0, 1) := by decide +kernel
theorem dX6_init_45 : decode cX6_init 45 = .ok (.bipush 10, 2) := by decide +kernel
theorem dX6_init_47 : decode cX6_init 47 = .ok (.newarray .int, 2) := by decide +kernel
theorem dX6_init_49 : decode cX6_init 49 = .ok (.putfield 27, 3) := by decide +kernel
theorem dX6_init_52 : decode cX6_init 52 = .ok (.aload_n 0, 1) := by decide +kernel
theorem dX6_init_53 : decode cX6_init 53 = .ok (.bipush 11, 2) := by decide +kernel
theorem dX6_init_55 : decode cX6_init 55 = .ok (.newarray .int, 2) := by decide +kernel
theorem dX6_init_57 : decode cX6_init 57 = .ok (.putfield 30, 3) := by decide +kernel
theorem dX6_init_60 : decode cX6_init 60 = .ok (.aload_n 0, 1) := by decide +kernel
theorem dX6_init_61 : decode cX6_init 61 = .ok (.aload_n 1, 1) := by decide +kernel
theorem dX6_init_62 : decode cX6_init 62 = .ok (.putfield 33, 3) := by decide +kernel
theorem dX6_init_65 : decode cX6_init 65 = .ok (.return_, 1) := by decide +kernel
theorem dX6_load_0 : decode cX6_load 0 = .ok (.iconst 0, 1) := by decide +kernel
theorem dX6_load_1 : decode cX6_load 1 = .ok (.istore_n 1, 1) := by decide +kernel
theorem dX6_load_2 : decode cX6_load 2 = .ok (.iload_n 1, 1) := by decide +kernel
theorem dX6_load_3 : decode cX6_load 3 = .ok (.aload_n 0, 1) := by decide +kernel
theorem dX6_load_4 : decode cX6_load 4 = .ok (.getfield 33, 3) := by decide +kernel
theorem dX6_load_7 : decode cX6_load 7 = .ok (.getfield 37, 3) := by decide +kernel
theorem dX6_load_10 : decode cX6_load 10 = .ok (.if_icmp .ge 37, 3) := by decide +kernel
theorem dX6_load_13 : decode cX6_load 13 = .ok (.aload_n 0, 1) := by decide +kernel
theorem dX6_load_14 : decode cX6_load 14 = .ok (.getfield 9, 3) := by decide +kernel
theorem dX6_load_17 : decode cX6_load 17 = .ok (.iload_n 1, 1) := by decide +kernel
theorem dX6_load_18 : decode cX6_load 18 = .ok (.aload_n 0, 1) := by decide +kernel
theorem dX6_load_19 : decode cX6_load 19 = .ok (.getfield 33, 3) := by decide +kernel
theorem dX6_load_22 : decode cX6_load 22 = .ok (.iload_n 1, 1) := by decide +kernel
theorem dX6_load_23 : decode cX6_load 23 = .ok (.invokevirtual 43, 3) := by decide +kernel
theorem dX6_load_26 : decode cX6_load 26 = .ok (.iastore, 1) := by decide +kernel
theorem dX6_load_27 : decode cX6_load 27 = .ok (.aload_n 0, 1) := by decide +kernel
theorem dX6_load_28 : decode cX6_load 28 = .ok (.getfield 15, 3) := by decide +kernel
theorem dX6_load_31 : decode cX6_load 31 = .ok (.iload_n 1, 1) := by decide +kernel
theorem dX6_load_32 : decode cX6_load 32 = .ok (.aload_n 0, 1) := by decide +kernel
theorem dX6_load_33 : decode cX6_load 33 = .ok (.getfield 33, 3) := by decide +kernel
theorem dX6_load_36 : decode cX6_load 36 = .ok (.iload_n 1, 1) := by decide +kernel
theorem dX6_load_37 : decode cX6_load 37 = .ok (.invokevirtual 47, 3) := by decide +kernel
theorem dX6_load_40 : decode cX6_load 40 = .ok (.iastore, 1) := by decide +kernel
theorem dX6_load_41 : decode cX6_load 41 = .ok (.iinc 1 1, 3) := by decide +kernel
theorem dX6_load_44 : decode cX6_load 44 = .ok (.goto (-42), 3) := by decide +kernel
theorem dX6_load_47 : decode cX6_load 47 = .ok (.return_, 1) := by decide +kernel
theorem dX6_holds_0 : decode cX6_holds 0 = .ok (.aload_n 0, 1) := by decide +kernel
theorem dX6_holds_1 : decode cX6_holds 1 = .ok (.iload_n 1, 1) := by decide +kernel
theorem dX6_holds_2 : decode cX6_holds 2 = .ok (.invokevirtual 50, 3) := by decide +kernel
theorem dX6_holds_5 : decode cX6_holds 5 = .ok (.ifCond .ne 5, 3) := by decide +kernel
theorem dX6_holds_8 : decode cX6_holds 8 = .ok (.iconst 0, 1) := by decide +kernel
theorem dX6_holds_9 : decode cX6_holds 9 = .ok (.ireturn, 1) := by decide +kernel
theorem dX6_holds_10 : decode cX6_holds 10 = .ok (.iconst (-1), 1) := by decide +kernel
theorem dX6_holds_11 : decode cX6_holds 11 = .ok (.istore_n 2, 1) := by decide +kernel
theorem dX6_holds_12 : decode cX6_holds 12 = .ok (.iconst 0, 1) := by decide +kernel
theorem dX6_holds_13 : decode cX6_holds 13 = .ok (.istore_n 3, 1) := by decide +kernel
theorem dX6_holds_14 : decode cX6_holds 14 = .ok (.iload_n 3, 1) := by decide +kernel
theorem dX6_holds_15 : decode cX6_holds 15 = .ok (.aload_n 0, 1) := by decide +kernel
theorem dX6_holds_16 : decode cX6_holds 16 = .ok (.getfield 33, 3) := by decide +kernel
theorem dX6_holds_19 : decode cX6_holds 19 = .ok (.getfield 54, 3) := by decide +kernel
theorem dX6_holds_22 : decode cX6_holds 22 = .ok (.if_icmp .gt 129, 3) := by decide +kernel
theorem dX6_holds_25 : decode cX6_holds 25 = .ok (.iconst (-1), 1) := by decide +kernel
theorem dX6_holds_26 : decode cX6_holds 26 = .ok (.istore_n 2, 1) := by decide +kernel
theorem dX6_holds_27 : decode cX6_holds 27 = .ok (.iconst 0, 1) := by decide +kernel
theorem dX6_holds_28 : decode cX6_holds 28 = .ok (.istore 4, 2) := by decide +kernel
theorem dX6_holds_30 : decode cX6_holds 30 = .ok (.iload 4, 2) := by decide +kernel
theorem dX6_holds_32 : decode cX6_holds 32 = .ok (.aload_n 0, 1) := by decide +kernel
theorem dX6_holds_33 : decode cX6_holds 33 = .ok (.getfield 33, 3) := by decide +kernel
theorem dX6_holds_36 : decode cX6_holds 36 = .ok (.getfield 37, 3) := by decide +kernel
theorem dX6_holds_39 : decode cX6_holds 39 = .ok (.if_icmp .ge 99, 3) := by decide +kernel
theorem dX6_holds_42 : decode cX6_holds 42 = .ok (.aload_n 0, 1) := by decide +kernel
theorem dX6_holds_43 : decode cX6_holds 43 = .ok (.getfield 33, 3) := by decide +kernel
theorem dX6_holds_46 : decode cX6_holds 46 = .ok (.getfield 57, 3) := by decide +kernel
theorem dX6_holds_49 : decode cX6_holds 49 = .ok (.iload 4, 2) := by decide +kernel
theorem dX6_holds_51 : decode cX6_holds 51 = .ok (.iaload, 1) := by decide +kernel
theorem dX6_holds_52 : decode cX6_holds 52 = .ok (.istore 5, 2) := by decide +kernel
theorem dX6_holds_54 : decode cX6_holds 54 = .ok (.aload_n 0, 1) := by decide +kernel
theorem dX6_holds_55 : decode cX6_holds 55 = .ok (.getfield 21, 3) := by decide +kernel
theorem dX6_holds_58 : decode cX6_holds 58 = .ok (.aload_n 0, 1) := by decide +kernel
theorem dX6_holds_59 : decode cX6_holds 59 = .ok (.getfield 33, 3) := by decide +kernel
theorem dX6_holds_62 : decode cX6_holds 62 = .ok (.getfield 60, 3) := by decide +kernel
theorem dX6_holds_65 : decode cX6_holds 65 = .ok (.iload 4, 2) := by decide +kernel
theorem dX6_holds_67 : decode cX6_holds 67 = .ok (.iaload, 1) := by decide +kernel
theorem dX6_holds_68 : decode cX6_holds 68 = .ok (.iaload, 1) := by decide +kernel
theorem dX6_holds_69 : decode cX6_holds 69 = .ok (.aload_n 0, 1) := by decide +kernel
theorem dX6_holds_70 : decode cX6_holds 70 = .ok (.getfield 18, 3) := by decide +kernel
theorem dX6_holds_73 : decode cX6_holds 73 = .ok (.iload 4, 2) := by decide +kernel
theorem dX6_holds_75 : decode cX6_holds 75 = .ok (.iaload, 1) := by decide +kernel
theorem dX6_holds_76 : decode cX6_holds 76 = .ok (.iadd, 1) := by decide +kernel
theorem dX6_holds_77 : decode cX6_holds 77 = .ok (.istore 6, 2) := by decide +kernel
theorem dX6_holds_79 : decode cX6_holds 79 = .ok (.iload 6, 2) := by decide +kernel
theorem dX6_holds_81 : decode cX6_holds 81 = .ok (.aload_n 0, 1) := by decide +kernel
theorem dX6_holds_82 : decode cX6_holds 82 = .ok (.getfield 24, 3) := by decide +kernel
theorem dX6_holds_85 : decode cX6_holds 85 = .ok (.iload 5, 2) := by decide +kernel
theorem dX6_holds_87 : decode cX6_holds 87 = .ok (.iaload, 1) := by decide +kernel
theorem dX6_holds_88 : decode cX6_holds 88 = .ok (.if_icmp .le 11, 3) := by decide +kernel
theorem dX6_holds_91 : decode cX6_holds 91 = .ok (.aload_n 0, 1) := by decide +kernel
theorem dX6_holds_92 : decode cX6_holds 92 = .ok (.iload 4, 2) := by decide +kernel
theorem dX6_holds_94 : decode cX6_holds 94 = .ok (.invokevirtual 63, 3) := by decide +kernel
theorem dX6_holds_97 : decode cX6_holds 97 = .ok (.iconst 0, 1) := by decide +kernel
theorem dX6_holds_98 : decode cX6_holds 98 = .ok (.ireturn, 1) := by decide +kernel
theorem dX6_holds_99 : decode cX6_holds 99 = .ok (.iload 6, 2) := by decide +kernel
theorem dX6_holds_101 : decode cX6_holds 101 = .ok (.aload_n 0, 1) := by decide +kernel
theorem dX6_holds_102 : decode cX6_holds 102 = .ok (.getfield 21, 3) := by decide +kernel
theorem dX6_holds_105 : decode cX6_holds 105 = .ok (.iload 5, 2) := by decide +kernel
theorem dX6_holds_107 : decode cX6_holds 107 = .ok (.iaload, 1) := by decide +kernel
theorem dX6_holds_108 : decode cX6_holds 108 = .ok (.if_icmp .le 24, 3) := by decide +kernel
theorem dX6_holds_111 : decode cX6_holds 111 = .ok (.aload_n 0, 1) := by decide +kernel
theorem dX6_holds_112 : decode cX6_holds 112 = .ok (.getfield 21, 3) := by decide +kernel
theorem dX6_holds_115 : decode cX6_holds 115 = .ok (.iload 5, 2) := by decide +kernel
theorem dX6_holds_117 : decode cX6_holds 117 = .ok (.iload 6, 2) := by decide +kernel
theorem dX6_holds_119 : decode cX6_holds 119 = .ok (.iastore, 1) := by decide +kernel
theorem dX6_holds_120 : decode cX6_holds 120 = .ok (.aload_n 0, 1) := by decide +kernel
theorem dX6_holds_121 : decode cX6_holds 121 = .ok (.getfield 27, 3) := by decide +kernel
theorem dX6_holds_124 : decode cX6_holds 124 = .ok (.iload 5, 2) := by decide +kernel
theorem dX6_holds_126 : decode cX6_holds 126 = .ok (.iload 4, 2) := by decide +kernel
theorem dX6_holds_128 : decode cX6_holds 128 = .ok (.iastore, 1) := by decide +kernel
theorem dX6_holds_129 : decode cX6_holds 129 = .ok (.iload 4, 2) := by decide +kernel
theorem dX6_holds_131 : decode cX6_holds 131 = .ok (.istore_n 2, 1) := by decide +kernel
theorem dX6_holds_132 : decode cX6_holds 132 = .ok (.iinc 4 1, 3) := by decide +kernel
theorem dX6_holds_135 : decode cX6_holds 135 = .ok (.goto (-105), 3) := by decide +kernel
theorem dX6_holds_138 : decode cX6_holds 138 = .ok (.iload_n 2, 1) := by decide +kernel
theorem dX6_holds_139 : decode cX6_holds 139 = .ok (.iconst (-1), 1) := by decide +kernel
theorem dX6_holds_140 : decode cX6_holds 140 = .ok (.if_icmp .ne 5, 3) := by decide +kernel
theorem dX6_holds_143 : decode cX6_holds 143 = .ok (.iconst 1, 1) := by decide +kernel
theorem dX6_holds_144 : decode cX6_holds 144 = .ok (.ireturn, 1) := by decide +kernel
theorem dX6_holds_145 : decode cX6_holds 145 = .ok (.iinc 3 1, 3) := by decide +kernel
theorem dX6_holds_148 : decode cX6_holds 148 = .ok (.goto (-134), 3) := by decide +kernel
theorem dX6_holds_151 : decode cX6_holds 151 = .ok (.aload_n 0, 1) := by decide +kernel
theorem dX6_holds_152 : decode cX6_holds 152 = .ok (.iload_n 2, 1) := by decide +kernel
theorem dX6_holds_153 : decode cX6_holds 153 = .ok (.invokevirtual 63, 3) := by decide +kernel
theorem dX6_holds_156 : decode cX6_holds 156 = .ok (.iconst 0, 1) := by decide +kernel
theorem dX6_holds_157 : decode cX6_holds 157 = .ok (.ireturn, 1) := by decide +kernel
theorem dX6_begin_0 : decode cX6_begin 0 = .ok (.iconst 0, 1) := by decide +kernel
theorem dX6_begin_1 : decode cX6_begin 1 = .ok (.istore_n 2, 1) := by decide +kernel
theorem dX6_begin_2 : decode cX6_begin 2 = .ok (.iload_n 2, 1) := by decide +kernel
theorem dX6_begin_3 : decode cX6_begin 3 = .ok (.aload_n 0, 1) := by decide +kernel
theorem dX6_begin_4 : decode cX6_begin 4 = .ok (.getfield 33, 3) := by decide +kernel
theorem dX6_begin_7 : decode cX6_begin 7 = .ok (.getfield 37, 3) := by decide +kernel
theorem dX6_begin_10 : decode cX6_begin 10 = .ok (.if_icmp .ge 30, 3) := by decide +kernel
theorem dX6_begin_13 : decode cX6_begin 13 = .ok (.aload_n 0, 1) := by decide +kernel
theorem dX6_begin_14 : decode cX6_begin 14 = .ok (.getfield 18, 3) := by decide +kernel
theorem dX6_begin_17 : decode cX6_begin 17 = .ok (.iload_n 2, 1) := by decide +kernel
theorem dX6_begin_18 : decode cX6_begin 18 = .ok (.aload_n 0, 1) := by decide +kernel
theorem dX6_begin_19 : decode cX6_begin 19 = .ok (.getfield 9, 3) := by decide +kernel
theorem dX6_begin_22 : decode cX6_begin 22 = .ok (.iload_n 2, 1) := by decide +kernel
theorem dX6_begin_23 : decode cX6_begin 23 = .ok (.iaload, 1) := by decide +kernel
theorem dX6_begin_24 : decode cX6_begin 24 = .ok (.aload_n 0, 1) := by decide +kernel
theorem dX6_begin_25 : decode cX6_begin 25 = .ok (.getfield 15, 3) := by decide +kernel
theorem dX6_begin_28 : decode cX6_begin 28 = .ok (.iload_n 2, 1) := by decide +kernel
theorem dX6_begin_29 : decode cX6_begin 29 = .ok (.iaload, 1) := by decide +kernel
theorem dX6_begin_30 : decode cX6_begin 30 = .ok (.iload_n 1, 1) := by decide +kernel
theorem dX6_begin_31 : decode cX6_begin 31 = .ok (.imul, 1) := by decide +kernel
theorem dX6_begin_32 : decode cX6_begin 32 = .ok (.isub, 1) := by decide +kernel
theorem dX6_begin_33 : decode cX6_begin 33 = .ok (.iastore, 1) := by decide +kernel
theorem dX6_begin_34 : decode cX6_begin 34 = .ok (.iinc 2 1, 3) := by decide +kernel
theorem dX6_begin_37 : decode cX6_begin 37 = .ok (.goto (-35), 3) := by decide +kernel
theorem dX6_begin_40 : decode cX6_begin 40 = .ok (.iconst 0, 1) := by decide +kernel
theorem dX6_begin_41 : decode cX6_begin 41 = .ok (.istore_n 2, 1) := by decide +kernel
theorem dX6_begin_42 : decode cX6_begin 42 = .ok (.iload_n 2, 1) := by decide +kernel
theorem dX6_begin_43 : decode cX6_begin 43 = .ok (.aload_n 0, 1) := by decide +kernel
theorem dX6_begin_44 : decode cX6_begin 44 = .ok (.getfield 33, 3) := by decide +kernel
theorem dX6_begin_47 : decode cX6_begin 47 = .ok (.getfield 54, 3) := by decide +kernel
theorem dX6_begin_50 : decode cX6_begin 50 = .ok (.if_icmp .ge 69, 3) := by decide +kernel
theorem dX6_begin_53 : decode cX6_begin 53 = .ok (.aload_n 0, 1) := by decide +kernel
theorem dX6_begin_54 : decode cX6_begin 54 = .ok (.getfield 21, 3) := by decide +kernel
theorem dX6_begin_57 : decode cX6_begin 57 = .ok (.iload_n 2, 1) := by decide +kernel
theorem dX6_begin_58 : decode cX6_begin 58 = .ok (.iconst 0, 1) := by decide +kernel
theorem dX6_begin_59 : decode cX6_begin 59 = .ok (.iastore, 1) := by decide +kernel
theorem dX6_begin_60 : decode cX6_begin 60 = .ok (.aload_n 0, 1) := by decide +kernel
theorem dX6_begin_61 : decode cX6_begin 61 = .ok (.getfield 27, 3) := by decide +kernel
theorem dX6_begin_64 : decode cX6_begin 64 = .ok (.iload_n 2, 1) := by decide +kernel
theorem dX6_begin_65 : decode cX6_begin 65 = .ok (.iconst (-1), 1) := by decide +kernel
theorem dX6_begin_66 : decode cX6_begin 66 = .ok (.iastore, 1) := by decide +kernel
theorem dX6_begin_67 : decode cX6_begin 67 = .ok (.aload_n 0, 1) := by decide +kernel
theorem dX6_begin_68 : decode cX6_begin 68 = .ok (.getfield 24, 3) := by decide +kernel
theorem dX6_begin_71 : decode cX6_begin 71 = .ok (.iload_n 2, 1) := by decide +kernel
theorem dX6_begin_72 : decode cX6_begin 72 = .ok (.aload_n 0, 1) := by decide +kernel
theorem dX6_begin_73 : decode cX6_begin 73 = .ok (.getfield 33, 3) := by decide +kernel
theorem dX6_begin_76 : decode cX6_begin 76 = .ok (.iload_n 2, 1) := by decide +kernel
theorem dX6_begin_77 : decode cX6_begin 77 = .ok (.iload_n 1, 1) := by decide +kernel
theorem dX6_begin_78 : decode cX6_begin 78 = .ok (.invokevirtual 67, 3) := by decide +kernel
theorem dX6_begin_81 : decode cX6_begin 81 = .ok (.iastore, 1) := by decide +kernel
theorem dX6_begin_82 : decode cX6_begin 82 = .ok (.aload_n 0, 1) := by decide +kernel
theorem dX6_begin_83 : decode cX6_begin 83 = .ok (.getfield 24, 3) := by decide +kernel
theorem dX6_begin_86 : decode cX6_begin 86 = .ok (.iload_n 2, 1) := by decide +kernel
theorem dX6_begin_87 : decode cX6_begin 87 = .ok (.iaload, 1) := by decide +kernel
theorem dX6_begin_88 : decode cX6_begin 88 = .ok (.ifCond .ge 25, 3) := by decide +kernel
theorem dX6_begin_91 : decode cX6_begin 91 = .ok (.aload_n 0, 1) := by decide +kernel
theorem dX6_begin_92 : decode cX6_begin 92 = .ok (.getfield 33, 3) := by decide +kernel
theorem dX6_begin_95 : decode cX6_begin 95 = .ok (.iload_n 2, 1) := by decide +kernel
theorem dX6_begin_96 : decode cX6_begin 96 = .ok (.invokevirtual 71, 3) := by decide +kernel
theorem dX6_begin_99 : decode cX6_begin 99 = .ok (.ifCond .ne 14, 3) := by decide +kernel
theorem dX6_begin_102 : decode cX6_begin 102 = .ok (.aload_n 0, 1) := by decide +kernel
theorem dX6_begin_103 : decode cX6_begin 103 = .ok (.invokevirtual 74, 3) := by decide +kernel
theorem dX6_begin_106 : decode cX6_begin 106 = .ok (.aload_n 0, 1) := by decide +kernel
theorem dX6_begin_107 : decode cX6_begin 107 = .ok (.iload_n 2, 1) := by decide +kernel
theorem dX6_begin_108 : decode cX6_begin 108 = .ok (.invokevirtual 77, 3) := by decide +kernel
theorem dX6_begin_111 : decode cX6_begin 111 = .ok (.iconst 0, 1) := by decide +kernel
theorem dX6_begin_112 : decode cX6_begin 112 = .ok (.ireturn, 1) := by decide +kernel
theorem dX6_begin_113 : decode cX6_begin 113 = .ok (.iinc 2 1, 3) := by decide +kernel
theorem dX6_begin_116 : decode cX6_begin 116 = .ok (.goto (-74), 3) := by decide +kernel
theorem dX6_begin_119 : decode cX6_begin 119 = .ok (.iconst 1, 1) := by decide +kernel
theorem dX6_begin_120 : decode cX6_begin 120 = .ok (.ireturn, 1) := by decide +kernel
theorem dX6_cutAt_0 : decode cX6_cutAt 0 = .ok (.iload_n 1, 1) := by decide +kernel
theorem dX6_cutAt_1 : decode cX6_cutAt 1 = .ok (.istore_n 2, 1) := by decide +kernel
theorem dX6_cutAt_2 : decode cX6_cutAt 2 = .ok (.aload_n 0, 1) := by decide +kernel
theorem dX6_cutAt_3 : decode cX6_cutAt 3 = .ok (.invokevirtual 74, 3) := by decide +kernel
theorem dX6_cutAt_6 : decode cX6_cutAt 6 = .ok (.iconst 0, 1) := by decide +kernel
theorem dX6_cutAt_7 : decode cX6_cutAt 7 = .ok (.istore_n 3, 1) := by decide +kernel
theorem dX6_cutAt_8 : decode cX6_cutAt 8 = .ok (.iload_n 3, 1) := by decide +kernel
theorem dX6_cutAt_9 : decode cX6_cutAt 9 = .ok (.aload_n 0, 1) := by decide +kernel
theorem dX6_cutAt_10 : decode cX6_cutAt 10 = .ok (.getfield 33, 3) := by decide +kernel
theorem dX6_cutAt_13 : decode cX6_cutAt 13 = .ok (.getfield 54, 3) := by decide +kernel
theorem dX6_cutAt_16 : decode cX6_cutAt 16 = .ok (.if_icmp .gt 20, 3) := by decide +kernel
theorem dX6_cutAt_19 : decode cX6_cutAt 19 = .ok (.iload_n 2, 1) := by decide +kernel
theorem dX6_cutAt_20 : decode cX6_cutAt 20 = .ok (.iconst (-1), 1) := by decide +kernel
theorem dX6_cutAt_21 : decode cX6_cutAt 21 = .ok (.if_icmp .eq 15, 3) := by decide +kernel
theorem dX6_cutAt_24 : decode cX6_cutAt 24 = .ok (.aload_n 0, 1) := by decide +kernel
theorem dX6_cutAt_25 : decode cX6_cutAt 25 = .ok (.iload_n 2, 1) := by decide +kernel
theorem dX6_cutAt_26 : decode cX6_cutAt 26 = .ok (.invokevirtual 80, 3) := by decide +kernel
theorem dX6_cutAt_29 : decode cX6_cutAt 29 = .ok (.istore_n 2, 1) := by decide +kernel
theorem dX6_cutAt_30 : decode cX6_cutAt 30 = .ok (.iinc 3 1, 3) := by decide +kernel
theorem dX6_cutAt_33 : decode cX6_cutAt 33 = .ok (.goto (-25), 3) := by decide +kernel
theorem dX6_cutAt_36 : decode cX6_cutAt 36 = .ok (.iload_n 2, 1) := by decide +kernel
theorem dX6_cutAt_37 : decode cX6_cutAt 37 = .ok (.iconst (-1), 1) := by decide +kernel
theorem dX6_cutAt_38 : decode cX6_cutAt 38 = .ok (.if_icmp .ne 19, 3) := by decide +kernel
theorem dX6_cutAt_41 : decode cX6_cutAt 41 = .ok (.aload_n 0, 1) := by decide +kernel
theorem dX6_cutAt_42 : decode cX6_cutAt 42 = .ok (.aload_n 0, 1) := by decide +kernel
theorem dX6_cutAt_43 : decode cX6_cutAt 43 = .ok (.getfield 33, 3) := by decide +kernel
theorem dX6_cutAt_46 : decode cX6_cutAt 46 = .ok (.getfield 57, 3) := by decide +kernel
theorem dX6_cutAt_49 : decode cX6_cutAt 49 = .ok (.iload_n 1, 1) := by decide +kernel
theorem dX6_cutAt_50 : decode cX6_cutAt 50 = .ok (.iaload, 1) := by decide +kernel
theorem dX6_cutAt_51 : decode cX6_cutAt 51 = .ok (.invokevirtual 77, 3) := by decide +kernel
theorem dX6_cutAt_54 : decode cX6_cutAt 54 = .ok (.goto 8, 3) := by decide +kernel
theorem dX6_cutAt_57 : decode cX6_cutAt 57 = .ok (.aload_n 0, 1) := by decide +kernel
theorem dX6_cutAt_58 : decode cX6_cutAt 58 = .ok (.iload_n 2, 1) := by decide +kernel
theorem dX6_cutAt_59 : decode cX6_cutAt 59 = .ok (.invokevirtual 83, 3) := by decide +kernel
theorem dX6_cutAt_62 : decode cX6_cutAt 62 = .ok (.return_, 1) := by decide +kernel
theorem dX6_cutLoop_0 : decode cX6_cutLoop 0 = .ok (.iload_n 1, 1) := by decide +kernel
theorem dX6_cutLoop_1 : decode cX6_cutLoop 1 = .ok (.istore_n 2, 1) := by decide +kernel
theorem dX6_cutLoop_2 : decode cX6_cutLoop 2 = .ok (.aload_n 0, 1) := by decide +kernel
theorem dX6_cutLoop_3 : decode cX6_cutLoop 3 = .ok (.invokevirtual 74, 3) := by decide +kernel
theorem dX6_cutLoop_6 : decode cX6_cutLoop 6 = .ok (.iconst 0, 1) := by decide +kernel
theorem dX6_cutLoop_7 : decode cX6_cutLoop 7 = .ok (.istore_n 3, 1) := by decide +kernel
theorem dX6_cutLoop_8 : decode cX6_cutLoop 8 = .ok (.iload_n 3, 1) := by decide +kernel
theorem dX6_cutLoop_9 : decode cX6_cutLoop 9 = .ok (.aload_n 0, 1) := by decide +kernel
theorem dX6_cutLoop_10 : decode cX6_cutLoop 10 = .ok (.getfield 33, 3) := by decide +kernel
theorem dX6_cutLoop_13 : decode cX6_cutLoop 13 = .ok (.getfield 54, 3) := by decide +kernel
theorem dX6_cutLoop_16 : decode cX6_cutLoop 16 = .ok (.if_icmp .ge 28, 3) := by decide +kernel
theorem dX6_cutLoop_19 : decode cX6_cutLoop 19 = .ok (.iload_n 2, 1) := by decide +kernel
theorem dX6_cutLoop_20 : decode cX6_cutLoop 20 = .ok (.iconst (-1), 1) := by decide +kernel
theorem dX6_cutLoop_21 : decode cX6_cutLoop 21 = .ok (.if_icmp .eq 23, 3) := by decide +kernel
theorem dX6_cutLoop_24 : decode cX6_cutLoop 24 = .ok (.aload_n 0, 1) := by decide +kernel
theorem dX6_cutLoop_25 : decode cX6_cutLoop 25 = .ok (.iload_n 2, 1) := by decide +kernel
theorem dX6_cutLoop_26 : decode cX6_cutLoop 26 = .ok (.invokevirtual 80, 3) := by decide +kernel
theorem dX6_cutLoop_29 : decode cX6_cutLoop 29 = .ok (.istore_n 2, 1) := by decide +kernel
theorem dX6_cutLoop_30 : decode cX6_cutLoop 30 = .ok (.iload_n 2, 1) := by decide +kernel
theorem dX6_cutLoop_31 : decode cX6_cutLoop 31 = .ok (.iload_n 1, 1) := by decide +kernel
theorem dX6_cutLoop_32 : decode cX6_cutLoop 32 = .ok (.if_icmp .ne 6, 3) := by decide +kernel
theorem dX6_cutLoop_35 : decode cX6_cutLoop 35 = .ok (.goto 9, 3) := by decide +kernel
theorem dX6_cutLoop_38 : decode cX6_cutLoop 38 = .ok (.iinc 3 1, 3) := by decide +kernel
theorem dX6_cutLoop_41 : decode cX6_cutLoop 41 = .ok (.goto (-33), 3) := by decide +kernel
theorem dX6_cutLoop_44 : decode cX6_cutLoop 44 = .ok (.return_, 1) := by decide +kernel
theorem dX6_addToCut_0 : decode cX6_addToCut 0 = .ok (.aload_n 0, 1) := by decide +kernel
theorem dX6_addToCut_1 : decode cX6_addToCut 1 = .ok (.getfield 30, 3) := by decide +kernel
theorem dX6_addToCut_4 : decode cX6_addToCut 4 = .ok (.aload_n 0, 1) := by decide +kernel
theorem dX6_addToCut_5 : decode cX6_addToCut 5 = .ok (.getfield 86, 3) := by decide +kernel
theorem dX6_addToCut_8 : decode cX6_addToCut 8 = .ok (.iload_n 1, 1) := by decide +kernel
theorem dX6_addToCut_9 : decode cX6_addToCut 9 = .ok (.iastore, 1) := by decide +kernel
theorem dX6_addToCut_10 : decode cX6_addToCut 10 = .ok (.aload_n 0, 1) := by decide +kernel
theorem dX6_addToCut_11 : decode cX6_addToCut 11 = .ok (.dup, 1) := by decide +kernel
theorem dX6_addToCut_12 : decode cX6_addToCut 12 = .ok (.getfield 86, 3) := by decide +kernel
theorem dX6_addToCut_15 : decode cX6_addToCut 15 = .ok (.iconst 1, 1) := by decide +kernel
theorem dX6_addToCut_16 : decode cX6_addToCut 16 = .ok (.iadd, 1) := by decide +kernel
theorem dX6_addToCut_17 : decode cX6_addToCut 17 = .ok (.putfield 86, 3) := by decide +kernel
theorem dX6_addToCut_20 : decode cX6_addToCut 20 = .ok (.aload_n 0, 1) := by decide +kernel
theorem dX6_addToCut_21 : decode cX6_addToCut 21 = .ok (.dup, 1) := by decide +kernel
theorem dX6_addToCut_22 : decode cX6_addToCut 22 = .ok (.getfield 89, 3) := by decide +kernel
theorem dX6_addToCut_25 : decode cX6_addToCut 25 = .ok (.aload_n 0, 1) := by decide +kernel
theorem dX6_addToCut_26 : decode cX6_addToCut 26 = .ok (.getfield 9, 3) := by decide +kernel
theorem dX6_addToCut_29 : decode cX6_addToCut 29 = .ok (.iload_n 1, 1) := by decide +kernel
theorem dX6_addToCut_30 : decode cX6_addToCut 30 = .ok (.iaload, 1) := by decide +kernel
theorem dX6_addToCut_31 : decode cX6_addToCut 31 = .ok (.iadd, 1) := by decide +kernel
theorem dX6_addToCut_32 : decode cX6_addToCut 32 = .ok (.putfield 89, 3) := by decide +kernel
theorem dX6_addToCut_35 : decode cX6_addToCut 35 = .ok (.aload_n 0, 1) := by decide +kernel
theorem dX6_addToCut_36 : decode cX6_addToCut 36 = .ok (.getfield 27, 3) := by decide +kernel
theorem dX6_addToCut_39 : decode cX6_addToCut 39 = .ok (.aload_n 0, 1) := by decide +kernel
theorem dX6_addToCut_40 : decode cX6_addToCut 40 = .ok (.getfield 33, 3) := by decide +kernel
theorem dX6_addToCut_43 : decode cX6_addToCut 43 = .ok (.getfield 60, 3) := by decide +kernel
theorem dX6_addToCut_46 : decode cX6_addToCut 46 = .ok (.iload_n 1, 1) := by decide +kernel
theorem dX6_addToCut_47 : decode cX6_addToCut 47 = .ok (.iaload, 1) := by decide +kernel
theorem dX6_addToCut_48 : decode cX6_addToCut 48 = .ok (.iaload, 1) := by decide +kernel
theorem dX6_addToCut_49 : decode cX6_addToCut 49 = .ok (.ireturn, 1) := by decide +kernel
theorem dX6_endCut_0 : decode cX6_endCut 0 = .ok (.aload_n 0, 1) := by decide +kernel
theorem dX6_endCut_1 : decode cX6_endCut 1 = .ok (.dup, 1) := by decide +kernel
theorem dX6_endCut_2 : decode cX6_endCut 2 = .ok (.getfield 89, 3) := by decide +kernel
theorem dX6_endCut_5 : decode cX6_endCut 5 = .ok (.bipush 64, 2) := by decide +kernel
theorem dX6_endCut_7 : decode cX6_endCut 7 = .ok (.aload_n 0, 1) := by decide +kernel
theorem dX6_endCut_8 : decode cX6_endCut 8 = .ok (.getfield 33, 3) := by decide +kernel
theorem dX6_endCut_11 : decode cX6_endCut 11 = .ok (.getfield 92, 3) := by decide +kernel
theorem dX6_endCut_14 : decode cX6_endCut 14 = .ok (.iload_n 1, 1) := by decide +kernel
theorem dX6_endCut_15 : decode cX6_endCut 15 = .ok (.iaload, 1) := by decide +kernel
theorem dX6_endCut_16 : decode cX6_endCut 16 = .ok (.imul, 1) := by decide +kernel
theorem dX6_endCut_17 : decode cX6_endCut 17 = .ok (.iadd, 1) := by decide +kernel
theorem dX6_endCut_18 : decode cX6_endCut 18 = .ok (.putfield 89, 3) := by decide +kernel
theorem dX6_endCut_21 : decode cX6_endCut 21 = .ok (.aload_n 0, 1) := by decide +kernel
theorem dX6_endCut_22 : decode cX6_endCut 22 = .ok (.aload_n 0, 1) := by decide +kernel
theorem dX6_endCut_23 : decode cX6_endCut 23 = .ok (.getfield 33, 3) := by decide +kernel
theorem dX6_endCut_26 : decode cX6_endCut 26 = .ok (.iload_n 1, 1) := by decide +kernel
theorem dX6_endCut_27 : decode cX6_endCut 27 = .ok (.invokevirtual 71, 3) := by decide +kernel
theorem dX6_endCut_30 : decode cX6_endCut 30 = .ok (.ifCond .eq 7, 3) := by decide +kernel
theorem dX6_endCut_33 : decode cX6_endCut 33 = .ok (.iconst 0, 1) := by decide +kernel
theorem dX6_endCut_34 : decode cX6_endCut 34 = .ok (.goto 20, 3) := by decide +kernel
theorem dX6_endCut_37 : decode cX6_endCut 37 = .ok (.aload_n 0, 1) := by decide +kernel
theorem dX6_endCut_38 : decode cX6_endCut 38 = .ok (.getfield 33, 3) := by decide +kernel
theorem dX6_endCut_41 : decode cX6_endCut 41 = .ok (.getfield 95, 3) := by decide +kernel
theorem dX6_endCut_44 : decode cX6_endCut 44 = .ok (.aload_n 0, 1) := by decide +kernel
theorem dX6_endCut_45 : decode cX6_endCut 45 = .ok (.getfield 33, 3) := by decide +kernel
theorem dX6_endCut_48 : decode cX6_endCut 48 = .ok (.getfield 98, 3) := by decide +kernel
theorem dX6_endCut_51 : decode cX6_endCut 51 = .ok (.iload_n 1, 1) := by decide +kernel
theorem dX6_endCut_52 : decode cX6_endCut 52 = .ok (.iaload, 1) := by decide +kernel
theorem dX6_endCut_53 : decode cX6_endCut 53 = .ok (.iaload, 1) := by decide +kernel
theorem dX6_endCut_54 : decode cX6_endCut 54 = .ok (.putfield 101, 3) := by decide +kernel
theorem dX6_endCut_57 : decode cX6_endCut 57 = .ok (.return_, 1) := by decide +kernel
theorem dX6_forgetCut_0 : decode cX6_forgetCut 0 = .ok (.aload_n 0, 1) := by decide +kernel
theorem dX6_forgetCut_1 : decode cX6_forgetCut 1 = .ok (.iconst 0, 1) := by decide +kernel
theorem dX6_forgetCut_2 : decode cX6_forgetCut 2 = .ok (.putfield 86, 3) := by decide +kernel
theorem dX6_forgetCut_5 : decode cX6_forgetCut 5 = .ok (.aload_n 0, 1) := by decide +kernel
theorem dX6_forgetCut_6 : decode cX6_forgetCut 6 = .ok (.iconst 0, 1) := by decide +kernel
theorem dX6_forgetCut_7 : decode cX6_forgetCut 7 = .ok (.putfield 89, 3) := by decide +kernel
theorem dX6_forgetCut_10 : decode cX6_forgetCut 10 = .ok (.aload_n 0, 1) := by decide +kernel
theorem dX6_forgetCut_11 : decode cX6_forgetCut 11 = .ok (.iconst 0, 1) := by decide +kernel
theorem dX6_forgetCut_12 : decode cX6_forgetCut 12 = .ok (.putfield 101, 3) := by decide +kernel
theorem dX6_forgetCut_15 : decode cX6_forgetCut 15 = .ok (.return_, 1) := by decide +kernel
theorem dX6_cutSpan_0 : decode cX6_cutSpan 0 = .ok (.aload_n 0, 1) := by decide +kernel
theorem dX6_cutSpan_1 : decode cX6_cutSpan 1 = .ok (.getfield 101, 3) := by decide +kernel
theorem dX6_cutSpan_4 : decode cX6_cutSpan 4 = .ok (.istore_n 1, 1) := by decide +kernel
theorem dX6_cutSpan_5 : decode cX6_cutSpan 5 = .ok (.iconst 0, 1) := by decide +kernel
theorem dX6_cutSpan_6 : decode cX6_cutSpan 6 = .ok (.istore_n 2, 1) := by decide +kernel
theorem dX6_cutSpan_7 : decode cX6_cutSpan 7 = .ok (.iload_n 2, 1) := by decide +kernel
theorem dX6_cutSpan_8 : decode cX6_cutSpan 8 = .ok (.aload_n 0, 1) := by decide +kernel
theorem dX6_cutSpan_9 : decode cX6_cutSpan 9 = .ok (.getfield 86, 3) := by decide +kernel
theorem dX6_cutSpan_12 : decode cX6_cutSpan 12 = .ok (.if_icmp .ge 25, 3) := by decide +kernel
theorem dX6_cutSpan_15 : decode cX6_cutSpan 15 = .ok (.iload_n 1, 1) := by decide +kernel
theorem dX6_cutSpan_16 : decode cX6_cutSpan 16 = .ok (.aload_n 0, 1) := by decide +kernel
theorem dX6_cutSpan_17 : decode cX6_cutSpan 17 = .ok (.getfield 33, 3) := by decide +kernel
theorem dX6_cutSpan_20 : decode cX6_cutSpan 20 = .ok (.aload_n 0, 1) := by decide +kernel
theorem dX6_cutSpan_21 : decode cX6_cutSpan 21 = .ok (.getfield 30, 3) := by decide +kernel
theorem dX6_cutSpan_24 : decode cX6_cutSpan 24 = .ok (.iload_n 2, 1) := by decide +kernel
theorem dX6_cutSpan_25 : decode cX6_cutSpan 25 = .ok (.iaload, 1) := by decide +kernel
theorem dX6_cutSpan_26 : decode cX6_cutSpan 26 = .ok (.invokevirtual 47, 3) := by decide +kernel
theorem dX6_cutSpan_29 : decode cX6_cutSpan 29 = .ok (.iadd, 1) := by decide +kernel
theorem dX6_cutSpan_30 : decode cX6_cutSpan 30 = .ok (.istore_n 1, 1) := by decide +kernel
theorem dX6_cutSpan_31 : decode cX6_cutSpan 31 = .ok (.iinc 2 1, 3) := by decide +kernel
theorem dX6_cutSpan_34 : decode cX6_cutSpan 34 = .ok (.goto (-27), 3) := by decide +kernel
theorem dX6_cutSpan_37 : decode cX6_cutSpan 37 = .ok (.iload_n 1, 1) := by decide +kernel
theorem dX6_cutSpan_38 : decode cX6_cutSpan 38 = .ok (.ireturn, 1) := by decide +kernel
theorem dX6_beyond_0 : decode cX6_beyond 0 = .ok (.aload_n 0, 1) := by decide +kernel
theorem dX6_beyond_1 : decode cX6_beyond 1 = .ok (.getfield 89, 3) := by decide +kernel
theorem dX6_beyond_4 : decode cX6_beyond 4 = .ok (.iload_n 1, 1) := by decide +kernel
theorem dX6_beyond_5 : decode cX6_beyond 5 = .ok (.aload_n 0, 1) := by decide +kernel
theorem dX6_beyond_6 : decode cX6_beyond 6 = .ok (.invokevirtual 104, 3) := by decide +kernel
theorem dX6_beyond_9 : decode cX6_beyond 9 = .ok (.imul, 1) := by decide +kernel
theorem dX6_beyond_10 : decode cX6_beyond 10 = .ok (.isub, 1) := by decide +kernel
theorem dX6_beyond_11 : decode cX6_beyond 11 = .ok (.ireturn, 1) := by decide +kernel
theorem dX6_cutHas_0 : decode cX6_cutHas 0 = .ok (.iconst 0, 1) := by decide +kernel
theorem dX6_cutHas_1 : decode cX6_cutHas 1 = .ok (.istore_n 2, 1) := by decide +kernel
theorem dX6_cutHas_2 : decode cX6_cutHas 2 = .ok (.iload_n 2, 1) := by decide +kernel
theorem dX6_cutHas_3 : decode cX6_cutHas 3 = .ok (.aload_n 0, 1) := by decide +kernel
theorem dX6_cutHas_4 : decode cX6_cutHas 4 = .ok (.getfield 86, 3) := by decide +kernel
theorem dX6_cutHas_7 : decode cX6_cutHas 7 = .ok (.if_icmp .ge 21, 3) := by decide +kernel
theorem dX6_cutHas_10 : decode cX6_cutHas 10 = .ok (.aload_n 0, 1) := by decide +kernel
theorem dX6_cutHas_11 : decode cX6_cutHas 11 = .ok (.getfield 30, 3) := by decide +kernel
theorem dX6_cutHas_14 : decode cX6_cutHas 14 = .ok (.iload_n 2, 1) := by decide +kernel
theorem dX6_cutHas_15 : decode cX6_cutHas 15 = .ok (.iaload, 1) := by decide +kernel
theorem dX6_cutHas_16 : decode cX6_cutHas 16 = .ok (.iload_n 1, 1) := by decide +kernel
theorem dX6_cutHas_17 : decode cX6_cutHas 17 = .ok (.if_icmp .ne 5, 3) := by decide +kernel
theorem dX6_cutHas_20 : decode cX6_cutHas 20 = .ok (.iconst 1, 1) := by decide +kernel
theorem dX6_cutHas_21 : decode cX6_cutHas 21 = .ok (.ireturn, 1) := by decide +kernel
theorem dX6_cutHas_22 : decode cX6_cutHas 22 = .ok (.iinc 2 1, 3) := by decide +kernel
theorem dX6_cutHas_25 : decode cX6_cutHas 25 = .ok (.goto (-23), 3) := by decide +kernel
theorem dX6_cutHas_28 : decode cX6_cutHas 28 = .ok (.iconst 0, 1) := by decide +kernel
theorem dX6_cutHas_29 : decode cX6_cutHas 29 = .ok (.ireturn, 1) := by decide +kernel
theorem dX6_cutSlope_0 : decode cX6_cutSlope 0 = .ok (.aload_n 0, 1) := by decide +kernel
theorem dX6_cutSlope_1 : decode cX6_cutSlope 1 = .ok (.getfield 86, 3) := by decide +kernel
theorem dX6_cutSlope_4 : decode cX6_cutSlope 4 = .ok (.ifCond .ne 5, 3) := by decide +kernel
theorem dX6_cutSlope_7 : decode cX6_cutSlope 7 = .ok (.iconst 0, 1) := by decide +kernel
theorem dX6_cutSlope_8 : decode cX6_cutSlope 8 = .ok (.ireturn, 1) := by decide +kernel
theorem dX6_cutSlope_9 : decode cX6_cutSlope 9 = .ok (.aload_n 0, 1) := by decide +kernel
theorem dX6_cutSlope_10 : decode cX6_cutSlope 10 = .ok (.getfield 33, 3) := by decide +kernel
theorem dX6_cutSlope_13 : decode cX6_cutSlope 13 = .ok (.getfield 57, 3) := by decide +kernel
theorem dX6_cutSlope_16 : decode cX6_cutSlope 16 = .ok (.aload_n 0, 1) := by decide +kernel
theorem dX6_cutSlope_17 : decode cX6_cutSlope 17 = .ok (.getfield 30, 3) := by decide +kernel
theorem dX6_cutSlope_20 : decode cX6_cutSlope 20 = .ok (.iconst 0, 1) := by decide +kernel
theorem dX6_cutSlope_21 : decode cX6_cutSlope 21 = .ok (.iaload, 1) := by decide +kernel
theorem dX6_cutSlope_22 : decode cX6_cutSlope 22 = .ok (.iaload, 1) := by decide +kernel
theorem dX6_cutSlope_23 : decode cX6_cutSlope 23 = .ok (.iload_n 1, 1) := by decide +kernel
theorem dX6_cutSlope_24 : decode cX6_cutSlope 24 = .ok (.if_icmp .ne 7, 3) := by decide +kernel
theorem dX6_cutSlope_27 : decode cX6_cutSlope 27 = .ok (.iconst 1, 1) := by decide +kernel
theorem dX6_cutSlope_28 : decode cX6_cutSlope 28 = .ok (.goto 4, 3) := by decide +kernel
theorem dX6_cutSlope_31 : decode cX6_cutSlope 31 = .ok (.iconst 0, 1) := by decide +kernel
theorem dX6_cutSlope_32 : decode cX6_cutSlope 32 = .ok (.istore_n 2, 1) := by decide +kernel
theorem dX6_cutSlope_33 : decode cX6_cutSlope 33 = .ok (.aload_n 0, 1) := by decide +kernel
theorem dX6_cutSlope_34 : decode cX6_cutSlope 34 = .ok (.getfield 33, 3) := by decide +kernel
theorem dX6_cutSlope_37 : decode cX6_cutSlope 37 = .ok (.getfield 60, 3) := by decide +kernel
theorem dX6_cutSlope_40 : decode cX6_cutSlope 40 = .ok (.aload_n 0, 1) := by decide +kernel
theorem dX6_cutSlope_41 : decode cX6_cutSlope 41 = .ok (.getfield 30, 3) := by decide +kernel
theorem dX6_cutSlope_44 : decode cX6_cutSlope 44 = .ok (.aload_n 0, 1) := by decide +kernel
theorem dX6_cutSlope_45 : decode cX6_cutSlope 45 = .ok (.getfield 86, 3) := by decide +kernel
theorem dX6_cutSlope_48 : decode cX6_cutSlope 48 = .ok (.iconst 1, 1) := by decide +kernel
theorem dX6_cutSlope_49 : decode cX6_cutSlope 49 = .ok (.isub, 1) := by decide +kernel
theorem dX6_cutSlope_50 : decode cX6_cutSlope 50 = .ok (.iaload, 1) := by decide +kernel
theorem dX6_cutSlope_51 : decode cX6_cutSlope 51 = .ok (.iaload, 1) := by decide +kernel
theorem dX6_cutSlope_52 : decode cX6_cutSlope 52 = .ok (.iload_n 1, 1) := by decide +kernel
theorem dX6_cutSlope_53 : decode cX6_cutSlope 53 = .ok (.if_icmp .ne 7, 3) := by decide +kernel
theorem dX6_cutSlope_56 : decode cX6_cutSlope 56 = .ok (.iconst 1, 1) := by decide +kernel
theorem dX6_cutSlope_57 : decode cX6_cutSlope 57 = .ok (.goto 4, 3) := by decide +kernel
theorem dX6_cutSlope_60 : decode cX6_cutSlope 60 = .ok (.iconst 0, 1) := by decide +kernel
theorem dX6_cutSlope_61 : decode cX6_cutSlope 61 = .ok (.istore_n 3, 1) := by decide +kernel
theorem dX6_cutSlope_62 : decode cX6_cutSlope 62 = .ok (.iload_n 2, 1) := by decide +kernel
theorem dX6_cutSlope_63 : decode cX6_cutSlope 63 = .ok (.iload_n 3, 1) := by decide +kernel
theorem dX6_cutSlope_64 : decode cX6_cutSlope 64 = .ok (.isub, 1) := by decide +kernel
theorem dX6_cutSlope_65 : decode cX6_cutSlope 65 = .ok (.ireturn, 1) := by decide +kernel
theorem dX6_firstGood_0 : decode cX6_firstGood 0 = .ok (.iload_n 1, 1) := by decide +kernel
theorem dX6_firstGood_1 : decode cX6_firstGood 1 = .ok (.istore_n 3, 1) := by decide +kernel
theorem dX6_firstGood_2 : decode cX6_firstGood 2 = .ok (.iconst 0, 1) := by decide +kernel
theorem dX6_firstGood_3 : decode cX6_firstGood 3 = .ok (.istore 4, 2) := by decide +kernel
theorem dX6_firstGood_5 : decode cX6_firstGood 5 = .ok (.iload 4, 2) := by decide +kernel
theorem dX6_firstGood_7 : decode cX6_firstGood 7 = .ok (.sipush 9999, 3) := by decide +kernel
theorem dX6_firstGood_10 : decode cX6_firstGood 10 = .ok (.if_icmp .ge 42, 3) := by decide +kernel
theorem dX6_firstGood_13 : decode cX6_firstGood 13 = .ok (.iload_n 3, 1) := by decide +kernel
theorem dX6_firstGood_14 : decode cX6_firstGood 14 = .ok (.iload_n 2, 1) := by decide +kernel
theorem dX6_firstGood_15 : decode cX6_firstGood 15 = .ok (.if_icmp .gt 37, 3) := by decide +kernel
theorem dX6_firstGood_18 : decode cX6_firstGood 18 = .ok (.aload_n 0, 1) := by decide +kernel
theorem dX6_firstGood_19 : decode cX6_firstGood 19 = .ok (.iload_n 3, 1) := by decide +kernel
theorem dX6_firstGood_20 : decode cX6_firstGood 20 = .ok (.invokevirtual 108, 3) := by decide +kernel
theorem dX6_firstGood_23 : decode cX6_firstGood 23 = .ok (.ifCond .eq 5, 3) := by decide +kernel
theorem dX6_firstGood_26 : decode cX6_firstGood 26 = .ok (.iload_n 3, 1) := by decide +kernel
theorem dX6_firstGood_27 : decode cX6_firstGood 27 = .ok (.ireturn, 1) := by decide +kernel
theorem dX6_firstGood_28 : decode cX6_firstGood 28 = .ok (.iload_n 3, 1) := by decide +kernel
theorem dX6_firstGood_29 : decode cX6_firstGood 29 = .ok (.iconst 1, 1) := by decide +kernel
theorem dX6_firstGood_30 : decode cX6_firstGood 30 = .ok (.iadd, 1) := by decide +kernel
theorem dX6_firstGood_31 : decode cX6_firstGood 31 = .ok (.aload_n 0, 1) := by decide +kernel
theorem dX6_firstGood_32 : decode cX6_firstGood 32 = .ok (.getfield 89, 3) := by decide +kernel
theorem dX6_firstGood_35 : decode cX6_firstGood 35 = .ok (.aload_n 0, 1) := by decide +kernel
theorem dX6_firstGood_36 : decode cX6_firstGood 36 = .ok (.invokevirtual 104, 3) := by decide +kernel
theorem dX6_firstGood_39 : decode cX6_firstGood 39 = .ok (.invokestatic 111, 3) := by decide +kernel
theorem dX6_firstGood_42 : decode cX6_firstGood 42 = .ok (.invokestatic 114, 3) := by decide +kernel
theorem dX6_firstGood_45 : decode cX6_firstGood 45 = .ok (.istore_n 3, 1) := by decide +kernel
theorem dX6_firstGood_46 : decode cX6_firstGood 46 = .ok (.iinc 4 1, 3) := by decide +kernel
theorem dX6_firstGood_49 : decode cX6_firstGood 49 = .ok (.goto (-44), 3) := by decide +kernel
theorem dX6_firstGood_52 : decode cX6_firstGood 52 = .ok (.iconst (-1), 1) := by decide +kernel
theorem dX6_firstGood_53 : decode cX6_firstGood 53 = .ok (.ireturn, 1) := by decide +kernel
theorem dX7_init_0 : decode cX7_init 0 = .ok (.aload_n 0, 1) := by decide +kernel
theorem dX7_init_1 : decode cX7_init 1 = .ok (.invokespecial 3, 3) := by decide +kernel
theorem dX7_init_4 : decode cX7_init 4 = .ok (.aload_n 0, 1) := by decide +kernel
theorem dX7_init_5 : decode cX7_init 5 = .ok (.bipush 24, 2) := by decide +kernel
theorem dX7_init_7 : decode cX7_init 7 = .ok (.newarray .int, 2) := by decide +kernel
theorem dX7_init_9 : decode cX7_init 9 = .ok (.putfield 9, 3) := by decide +kernel
theorem dX7_init_12 : decode cX7_init 12 = .ok (.aload_n 0, 1) := by decide +kernel
theorem dX7_init_13 : decode cX7_init 13 = .ok (.bipush 10, 2) := by decide +kernel
theorem dX7_init_15 : decode cX7_init 15 = .ok (.newarray .int, 2) := by decide +kernel
theorem dX7_init_17 : decode cX7_init 17 = .ok (.putfield 15, 3) := by decide +kernel
theorem dX7_init_20 : decode cX7_init 20 = .ok (.aload_n 0, 1) := by decide +kernel
theorem dX7_init_21 : decode cX7_init 21 = .ok (.bipush 10, 2) := by decide +kernel
theorem dX7_init_23 : decode cX7_init 23 = .ok (.newarray .int, 2) := by decide +kernel
theorem dX7_init_25 : decode cX7_init 25 = .ok (.putfield 18, 3) := by decide +kernel
theorem dX7_init_28 : decode cX7_init 28 = .ok (.aload_n 0, 1) := by decide +kernel
theorem dX7_init_29 : decode cX7_init 29 = .ok (.aload_n 1, 1) := by decide +kernel
theorem dX7_init_30 : decode cX7_init 30 = .ok (.putfield 21, 3) := by decide +kernel
theorem dX7_init_33 : decode cX7_init 33 = .ok (.return_, 1) := by decide +kernel
theorem dX7_rest_0 : decode cX7_rest 0 = .ok (.aload_n 0, 1) := by decide +kernel
theorem dX7_rest_1 : decode cX7_rest 1 = .ok (.getfield 21, 3) := by decide +kernel
theorem dX7_rest_4 : decode cX7_rest 4 = .ok (.aload_n 0, 1) := by decide +kernel
theorem dX7_rest_5 : decode cX7_rest 5 = .ok (.getfield 9, 3) := by decide +kernel
theorem dX7_rest_8 : decode cX7_rest 8 = .ok (.invokevirtual 25, 3) := by decide +kernel
theorem dX7_rest_11 : decode cX7_rest 11 = .ok (.aload_n 0, 1) := by decide +kernel
theorem dX7_rest_12 : decode cX7_rest 12 = .ok (.getfield 15, 3) := by decide +kernel
theorem dX7_rest_15 : decode cX7_rest 15 = .ok (.iconst 0, 1) := by decide +kernel
theorem dX7_rest_16 : decode cX7_rest 16 = .ok (.invokestatic 31, 3) := by decide +kernel
theorem dX7_rest_19 : decode cX7_rest 19 = .ok (.return_, 1) := by decide +kernel
theorem dX7_step_0 : decode cX7_step 0 = .ok (.aload_n 0, 1) := by decide +kernel
theorem dX7_step_1 : decode cX7_step 1 = .ok (.getfield 21, 3) := by decide +kernel
theorem dX7_step_4 : decode cX7_step 4 = .ok (.aload_n 0, 1) := by decide +kernel
theorem dX7_step_5 : decode cX7_step 5 = .ok (.getfield 15, 3) := by decide +kernel
theorem dX7_step_8 : decode cX7_step 8 = .ok (.aload_n 0, 1) := by decide +kernel
theorem dX7_step_9 : decode cX7_step 9 = .ok (.getfield 9, 3) := by decide +kernel
theorem dX7_step_12 : decode cX7_step 12 = .ok (.aload_n 0, 1) := by decide +kernel
theorem dX7_step_13 : decode cX7_step 13 = .ok (.getfield 18, 3) := by decide +kernel
theorem dX7_step_16 : decode cX7_step 16 = .ok (.invokevirtual 37, 3) := by decide +kernel
theorem dX7_step_19 : decode cX7_step 19 = .ok (.iconst 0, 1) := by decide +kernel
theorem dX7_step_20 : decode cX7_step 20 = .ok (.istore_n 1, 1) := by decide +kernel
theorem dX7_step_21 : decode cX7_step 21 = .ok (.iconst 0, 1) := by decide +kernel
theorem dX7_step_22 : decode cX7_step 22 = .ok (.istore_n 2, 1) := by decide +kernel
theorem dX7_step_23 : decode cX7_step 23 = .ok (.iload_n 2, 1) := by decide +kernel
theorem dX7_step_24 : decode cX7_step 24 = .ok (.aload_n 0, 1) := by decide +kernel
theorem dX7_step_25 : decode cX7_step 25 = .ok (.getfield 21, 3) := by decide +kernel
theorem dX7_step_28 : decode cX7_step 28 = .ok (.getfield 41, 3) := by decide +kernel
theorem dX7_step_31 : decode cX7_step 31 = .ok (.if_icmp .ge 49, 3) := by decide +kernel
theorem dX7_step_34 : decode cX7_step 34 = .ok (.aload_n 0, 1) := by decide +kernel
theorem dX7_step_35 : decode cX7_step 35 = .ok (.getfield 21, 3) := by decide +kernel
theorem dX7_step_38 : decode cX7_step 38 = .ok (.iload_n 2, 1) := by decide +kernel
theorem dX7_step_39 : decode cX7_step 39 = .ok (.aload_n 0, 1) := by decide +kernel
theorem dX7_step_40 : decode cX7_step 40 = .ok (.getfield 18, 3) := by decide +kernel
theorem dX7_step_43 : decode cX7_step 43 = .ok (.iload_n 2, 1) := by decide +kernel
theorem dX7_step_44 : decode cX7_step 44 = .ok (.iaload, 1) := by decide +kernel
theorem dX7_step_45 : decode cX7_step 45 = .ok (.invokevirtual 45, 3) := by decide +kernel
theorem dX7_step_48 : decode cX7_step 48 = .ok (.istore_n 3, 1) := by decide +kernel
theorem dX7_step_49 : decode cX7_step 49 = .ok (.iload_n 1, 1) := by decide +kernel
theorem dX7_step_50 : decode cX7_step 50 = .ok (.iload_n 3, 1) := by decide +kernel
theorem dX7_step_51 : decode cX7_step 51 = .ok (.aload_n 0, 1) := by decide +kernel
theorem dX7_step_52 : decode cX7_step 52 = .ok (.getfield 15, 3) := by decide +kernel
theorem dX7_step_55 : decode cX7_step 55 = .ok (.iload_n 2, 1) := by decide +kernel
theorem dX7_step_56 : decode cX7_step 56 = .ok (.iaload, 1) := by decide +kernel
theorem dX7_step_57 : decode cX7_step 57 = .ok (.if_icmp .eq 7, 3) := by decide +kernel
theorem dX7_step_60 : decode cX7_step 60 = .ok (.iconst 1, 1) := by decide +kernel
theorem dX7_step_61 : decode cX7_step 61 = .ok (.goto 4, 3) := by decide +kernel
theorem dX7_step_64 : decode cX7_step 64 = .ok (.iconst 0, 1) := by decide +kernel
theorem dX7_step_65 : decode cX7_step 65 = .ok (.ior, 1) := by decide +kernel
theorem dX7_step_66 : decode cX7_step 66 = .ok (.istore_n 1, 1) := by decide +kernel
theorem dX7_step_67 : decode cX7_step 67 = .ok (.aload_n 0, 1) := by decide +kernel
theorem dX7_step_68 : decode cX7_step 68 = .ok (.getfield 15, 3) := by decide +kernel
theorem dX7_step_71 : decode cX7_step 71 = .ok (.iload_n 2, 1) := by decide +kernel
theorem dX7_step_72 : decode cX7_step 72 = .ok (.iload_n 3, 1) := by decide +kernel
theorem dX7_step_73 : decode cX7_step 73 = .ok (.iastore, 1) := by decide +kernel
theorem dX7_step_74 : decode cX7_step 74 = .ok (.iinc 2 1, 3) := by decide +kernel
theorem dX7_step_77 : decode cX7_step 77 = .ok (.goto (-54), 3) := by decide +kernel
theorem dX7_step_80 : decode cX7_step 80 = .ok (.iload_n 1, 1) := by decide +kernel
theorem dX7_step_81 : decode cX7_step 81 = .ok (.ireturn, 1) := by decide +kernel
theorem dX7_leavesAt_0 : decode cX7_leavesAt 0 = .ok (.aload_n 0, 1) := by decide +kernel
theorem dX7_leavesAt_1 : decode cX7_leavesAt 1 = .ok (.invokevirtual 49, 3) := by decide +kernel
theorem dX7_leavesAt_4 : decode cX7_leavesAt 4 = .ok (.iconst 0, 1) := by decide +kernel
theorem dX7_leavesAt_5 : decode cX7_leavesAt 5 = .ok (.istore_n 3, 1) := by decide +kernel
theorem dX7_leavesAt_6 : decode cX7_leavesAt 6 = .ok (.iload_n 3, 1) := by decide +kernel
theorem dX7_leavesAt_7 : decode cX7_leavesAt 7 = .ok (.iload_n 2, 1) := by decide +kernel
theorem dX7_leavesAt_8 : decode cX7_leavesAt 8 = .ok (.if_icmp .ge 19, 3) := by decide +kernel
theorem dX7_leavesAt_11 : decode cX7_leavesAt 11 = .ok (.aload_n 0, 1) := by decide +kernel
theorem dX7_leavesAt_12 : decode cX7_leavesAt 12 = .ok (.invokevirtual 52, 3) := by decide +kernel
theorem dX7_leavesAt_15 : decode cX7_leavesAt 15 = .ok (.ifCond .ne 6, 3) := by decide +kernel
theorem dX7_leavesAt_18 : decode cX7_leavesAt 18 = .ok (.goto 9, 3) := by decide +kernel
theorem dX7_leavesAt_21 : decode cX7_leavesAt 21 = .ok (.iinc 3 1, 3) := by decide +kernel
theorem dX7_leavesAt_24 : decode cX7_leavesAt 24 = .ok (.goto (-18), 3) := by decide +kernel
theorem dX7_leavesAt_27 : decode cX7_leavesAt 27 = .ok (.aload_n 0, 1) := by decide +kernel
theorem dX7_leavesAt_28 : decode cX7_leavesAt 28 = .ok (.getfield 15, 3) := by decide +kernel
theorem dX7_leavesAt_31 : decode cX7_leavesAt 31 = .ok (.iload_n 1, 1) := by decide +kernel
theorem dX7_leavesAt_32 : decode cX7_leavesAt 32 = .ok (.iaload, 1) := by decide +kernel
theorem dX7_leavesAt_33 : decode cX7_leavesAt 33 = .ok (.ireturn, 1) := by decide +kernel
theorem dX7_firstUnmet_0 : decode cX7_firstUnmet 0 = .ok (.aload_n 0, 1) := by decide +kernel
theorem dX7_firstUnmet_1 : decode cX7_firstUnmet 1 = .ok (.invokevirtual 49, 3) := by decide +kernel
theorem dX7_firstUnmet_4 : decode cX7_firstUnmet 4 = .ok (.iconst 1, 1) := by decide +kernel
theorem dX7_firstUnmet_5 : decode cX7_firstUnmet 5 = .ok (.istore_n 2, 1) := by decide +kernel
theorem dX7_firstUnmet_6 : decode cX7_firstUnmet 6 = .ok (.iload_n 2, 1) := by decide +kernel
theorem dX7_firstUnmet_7 : decode cX7_firstUnmet 7 = .ok (.sipush 200, 3) := by decide +kernel
theorem dX7_firstUnmet_10 : decode cX7_firstUnmet 10 = .ok (.if_icmp .gt 40, 3) := by decide +kernel
theorem dX7_firstUnmet_13 : decode cX7_firstUnmet 13 = .ok (.aload_n 0, 1) := by decide +kernel
theorem dX7_firstUnmet_14 : decode cX7_firstUnmet 14 = .ok (.invokevirtual 52, 3) := by decide +kernel
theorem dX7_firstUnmet_17 : decode cX7_firstUnmet 17 = .ok (.istore_n 3, 1) := by decide +kernel
theorem dX7_firstUnmet_18 : decode cX7_firstUnmet 18 = .ok (.aload_n 0, 1) := by decide +kernel
theorem dX7_firstUnmet_19 : decode cX7_firstUnmet 19 = .ok (.getfield 21, 3) := by decide +kernel
theorem dX7_firstUnmet_22 : decode cX7_firstUnmet 22 = .ok (.iload_n 1, 1) := by decide +kernel
theorem dX7_firstUnmet_23 : decode cX7_firstUnmet 23 = .ok (.aload_n 0, 1) := by decide +kernel
theorem dX7_firstUnmet_24 : decode cX7_firstUnmet 24 = .ok (.getfield 18, 3) := by decide +kernel
theorem dX7_firstUnmet_27 : decode cX7_firstUnmet 27 = .ok (.iload_n 1, 1) := by decide +kernel
theorem dX7_firstUnmet_28 : decode cX7_firstUnmet 28 = .ok (.iaload, 1) := by decide +kernel
theorem dX7_firstUnmet_29 : decode cX7_firstUnmet 29 = .ok (.invokevirtual 56, 3) := by decide +kernel
theorem dX7_firstUnmet_32 : decode cX7_firstUnmet 32 = .ok (.ifCond .ge 5, 3) := by decide +kernel
theorem dX7_firstUnmet_35 : decode cX7_firstUnmet 35 = .ok (.iload_n 2, 1) := by decide +kernel
theorem dX7_firstUnmet_36 : decode cX7_firstUnmet 36 = .ok (.ireturn, 1) := by decide +kernel
theorem dX7_firstUnmet_37 : decode cX7_firstUnmet 37 = .ok (.iload_n 3, 1) := by decide +kernel
theorem dX7_firstUnmet_38 : decode cX7_firstUnmet 38 = .ok (.ifCond .ne 6, 3) := by decide +kernel
theorem dX7_firstUnmet_41 : decode cX7_firstUnmet 41 = .ok (.goto 9, 3) := by decide +kernel
theorem dX7_firstUnmet_44 : decode cX7_firstUnmet 44 = .ok (.iinc 2 1, 3) := by decide +kernel
theorem dX7_firstUnmet_47 : decode cX7_firstUnmet 47 = .ok (.goto (-41), 3) := by decide +kernel
theorem dX7_firstUnmet_50 : decode cX7_firstUnmet 50 = .ok (.bipush (-2), 2) := by decide +kernel
theorem dX7_firstUnmet_52 : decode cX7_firstUnmet 52 = .ok (.ireturn, 1) := by decide +kernel
theorem dX8_init_0 : decode cX8_init 0 = .ok (.aload_n 0, 1) := by decide +kernel
theorem dX8_init_1 : decode cX8_init 1 = .ok (.invokespecial 1, 3) := by decide +kernel
theorem dX8_init_4 : decode cX8_init 4 = .ok (.aload_n 0, 1) := by decide +kernel
theorem dX8_init_5 : decode cX8_init 5 = .ok (.sipush 700, 3) := by decide +kernel
theorem dX8_init_8 : decode cX8_init 8 = .ok (.newarray .int, 2) := by decide +kernel
theorem dX8_init_10 : decode cX8_init 10 = .ok (.putfield 9, 3) := by decide +kernel
theorem dX8_init_13 : decode cX8_init 13 = .ok (.aload_n 0, 1) := by decide +kernel
theorem dX8_init_14 : decode cX8_init 14 = .ok (.new 13, 3) := by decide +kernel
theorem dX8_init_17 : decode cX8_init 17 = .ok (.dup, 1) := by decide +kernel
theorem dX8_init_18 : decode cX8_init 18 = .ok (.invokespecial 15, 3) := by decide +kernel
theorem dX8_init_21 : decode cX8_init 21 = .ok (.putfield 16, 3) := by decide +kernel
theorem dX8_init_24 : decode cX8_init 24 = .ok (.aload_n 0, 1) := by decide +kernel
theorem dX8_init_25 : decode cX8_init 25 = .ok (.new 20, 3) := by decide +kernel
theorem dX8_init_28 : decode cX8_init 28 = .ok (.dup, 1) := by decide +kernel
theorem dX8_init_29 : decode cX8_init 29 = .ok (.aload_n 0, 1) := by decide +kernel
theorem dX8_init_30 : decode cX8_init 30 = .ok (.getfield 9, 3) := by decide +kernel
theorem dX8_init_33 : decode cX8_init 33 = .ok (.invokespecial 22, 3) := by decide +kernel
theorem dX8_init_36 : decode cX8_init 36 = .ok (.putfield 25, 3) := by decide +kernel
theorem dX8_init_39 : decode cX8_init 39 = .ok (.aload_n 0, 1) := by decide +kernel
theorem dX8_init_40 : decode cX8_init 40 = .ok (.new 29, 3) := by decide +kernel
theorem dX8_init_43 : decode cX8_init 43 = .ok (.dup, 1) := by decide +kernel
theorem dX8_init_44 : decode cX8_init 44 = .ok (.invokespecial 31, 3) := by decide +kernel
theorem dX8_init_47 : decode cX8_init 47 = .ok (.putfield 32, 3) := by decide +kernel
theorem dX8_init_50 : decode cX8_init 50 = .ok (.aload_n 0, 1) := by decide +kernel
theorem dX8_init_51 : decode cX8_init 51 = .ok (.new 36, 3) := by decide +kernel
theorem dX8_init_54 : decode cX8_init 54 = .ok (.dup, 1) := by decide +kernel
theorem dX8_init_55 : decode cX8_init 55 = .ok (.aload_n 0, 1) := by decide +kernel
theorem dX8_init_56 : decode cX8_init 56 = .ok (.getfield 16, 3) := by decide +kernel
theorem dX8_init_59 : decode cX8_init 59 = .ok (.invokespecial 38, 3) := by decide +kernel
theorem dX8_init_62 : decode cX8_init 62 = .ok (.putfield 41, 3) := by decide +kernel
theorem dX8_init_65 : decode cX8_init 65 = .ok (.aload_n 0, 1) := by decide +kernel
theorem dX8_init_66 : decode cX8_init 66 = .ok (.new 45, 3) := by decide +kernel
theorem dX8_init_69 : decode cX8_init 69 = .ok (.dup, 1) := by decide +kernel
theorem dX8_init_70 : decode cX8_init 70 = .ok (.aload_n 0, 1) := by decide +kernel
theorem dX8_init_71 : decode cX8_init 71 = .ok (.getfield 16, 3) := by decide +kernel
theorem dX8_init_74 : decode cX8_init 74 = .ok (.invokespecial 47, 3) := by decide +kernel
theorem dX8_init_77 : decode cX8_init 77 = .ok (.putfield 48, 3) := by decide +kernel
theorem dX8_init_80 : decode cX8_init 80 = .ok (.aload_n 0, 1) := by decide +kernel
theorem dX8_init_81 : decode cX8_init 81 = .ok (.new 52, 3) := by decide +kernel
theorem dX8_init_84 : decode cX8_init 84 = .ok (.dup, 1) := by decide +kernel
theorem dX8_init_85 : decode cX8_init 85 = .ok (.aload_n 0, 1) := by decide +kernel
theorem dX8_init_86 : decode cX8_init 86 = .ok (.getfield 16, 3) := by decide +kernel
theorem dX8_init_89 : decode cX8_init 89 = .ok (.invokespecial 54, 3) := by decide +kernel
theorem dX8_init_92 : decode cX8_init 92 = .ok (.putfield 55, 3) := by decide +kernel
theorem dX8_init_95 : decode cX8_init 95 = .ok (.aload_n 0, 1) := by decide +kernel
theorem dX8_init_96 : decode cX8_init 96 = .ok (.new 59, 3) := by decide +kernel
theorem dX8_init_99 : decode cX8_init 99 = .ok (.dup, 1) := by decide +kernel
theorem dX8_init_100 : decode cX8_init 100 = .ok (.aload_n 0, 1) := by decide +kernel
theorem dX8_init_101 : decode cX8_init 101 = .ok (.getfield 16, 3) := by decide +kernel
theorem dX8_init_104 : decode cX8_init 104 = .ok (.aload_n 0, 1) := by decide +kernel
theorem dX8_init_105 : decode cX8_init 105 = .ok (.getfield 41, 3) := by decide +kernel
theorem dX8_init_108 : decode cX8_init 108 = .ok (.invokespecial 61, 3) := by decide +kernel
theorem dX8_init_111 : decode cX8_init 111 = .ok (.putfield 64, 3) := by decide +kernel
theorem dX8_init_114 : decode cX8_init 114 = .ok (.return_, 1) := by decide +kernel
theorem dX8_feed_0 : decode cX8_feed 0 = .ok (.aload_n 0, 1) := by decide +kernel
theorem dX8_feed_1 : decode cX8_feed 1 = .ok (.getfield 68, 3) := by decide +kernel
theorem dX8_feed_4 : decode cX8_feed 4 = .ok (.bipush 20, 2) := by decide +kernel
theorem dX8_feed_6 : decode cX8_feed 6 = .ok (.iadd, 1) := by decide +kernel
theorem dX8_feed_7 : decode cX8_feed 7 = .ok (.sipush 700, 3) := by decide +kernel
theorem dX8_feed_10 : decode cX8_feed 10 = .ok (.if_icmp .le 5, 3) := by decide +kernel
theorem dX8_feed_13 : decode cX8_feed 13 = .ok (.iconst (-1), 1) := by decide +kernel
theorem dX8_feed_14 : decode cX8_feed 14 = .ok (.ireturn, 1) := by decide +kernel
theorem dX8_feed_15 : decode cX8_feed 15 = .ok (.aload_n 0, 1) := by decide +kernel
theorem dX8_feed_16 : decode cX8_feed 16 = .ok (.iload_n 1, 1) := by decide +kernel
theorem dX8_feed_17 : decode cX8_feed 17 = .ok (.invokevirtual 72, 3) := by decide +kernel
theorem dX8_feed_20 : decode cX8_feed 20 = .ok (.aload_n 0, 1) := by decide +kernel
theorem dX8_feed_21 : decode cX8_feed 21 = .ok (.iload_n 2, 1) := by decide +kernel
theorem dX8_feed_22 : decode cX8_feed 22 = .ok (.invokevirtual 72, 3) := by decide +kernel
theorem dX8_feed_25 : decode cX8_feed 25 = .ok (.aload_n 0, 1) := by decide +kernel
theorem dX8_feed_26 : decode cX8_feed 26 = .ok (.iload_n 3, 1) := by decide +kernel
theorem dX8_feed_27 : decode cX8_feed 27 = .ok (.invokevirtual 72, 3) := by decide +kernel
theorem dX8_feed_30 : decode cX8_feed 30 = .ok (.aload_n 0, 1) := by decide +kernel
theorem dX8_feed_31 : decode cX8_feed 31 = .ok (.iload 4, 2) := by decide +kernel
theorem dX8_feed_33 : decode cX8_feed 33 = .ok (.invokevirtual 72, 3) := by decide +kernel
theorem dX8_feed_36 : decode cX8_feed 36 = .ok (.aload_n 0, 1) := by decide +kernel
theorem dX8_feed_37 : decode cX8_feed 37 = .ok (.iload 5, 2) := by decide +kernel
theorem dX8_feed_39 : decode cX8_feed 39 = .ok (.invokevirtual 72, 3) := by decide +kernel
theorem dX8_feed_42 : decode cX8_feed 42 = .ok (.aload_n 0, 1) := by decide +kernel
theorem dX8_feed_43 : decode cX8_feed 43 = .ok (.getfield 68, 3) := by decide +kernel
theorem dX8_feed_46 : decode cX8_feed 46 = .ok (.ireturn, 1) := by decide +kernel
theorem dX8_putFour_0 : decode cX8_putFour 0 = .ok (.bipush 24, 2) := by decide +kernel
theorem dX8_putFour_2 : decode cX8_putFour 2 = .ok (.istore_n 2, 1) := by decide +kernel
theorem dX8_putFour_3 : decode cX8_putFour 3 = .ok (.iload_n 2, 1) := by decide +kernel
theorem dX8_putFour_4 : decode cX8_putFour 4 = .ok (.ifCond .lt 35, 3) := by decide +kernel
theorem dX8_putFour_7 : decode cX8_putFour 7 = .ok (.aload_n 0, 1) := by decide +kernel
theorem dX8_putFour_8 : decode cX8_putFour 8 = .ok (.getfield 9, 3) := by decide +kernel
theorem dX8_putFour_11 : decode cX8_putFour 11 = .ok (.aload_n 0, 1) := by decide +kernel
theorem dX8_putFour_12 : decode cX8_putFour 12 = .ok (.getfield 68, 3) := by decide +kernel
theorem dX8_putFour_15 : decode cX8_putFour 15 = .ok (.iload_n 1, 1) := by decide +kernel
theorem dX8_putFour_16 : decode cX8_putFour 16 = .ok (.iload_n 2, 1) := by decide +kernel
theorem dX8_putFour_17 : decode cX8_putFour 17 = .ok (.iushr, 1) := by decide +kernel
theorem dX8_putFour_18 : decode cX8_putFour 18 = .ok (.sipush 255, 3) := by decide +kernel
theorem dX8_putFour_21 : decode cX8_putFour 21 = .ok (.iand, 1) := by decide +kernel
theorem dX8_putFour_22 : decode cX8_putFour 22 = .ok (.iastore, 1) := by decide +kernel
theorem dX8_putFour_23 : decode cX8_putFour 23 = .ok (.aload_n 0, 1) := by decide +kernel
theorem dX8_putFour_24 : decode cX8_putFour 24 = .ok (.dup, 1) := by decide +kernel
theorem dX8_putFour_25 : decode cX8_putFour 25 = .ok (.getfield 68, 3) := by decide +kernel
theorem dX8_putFour_28 : decode cX8_putFour 28 = .ok (.iconst 1, 1) := by decide +kernel
theorem dX8_putFour_29 : decode cX8_putFour 29 = .ok (.iadd, 1) := by decide +kernel
theorem dX8_putFour_30 : decode cX8_putFour 30 = .ok (.putfield 68, 3) := by decide +kernel
theorem dX8_putFour_33 : decode cX8_putFour 33 = .ok (.iinc 2 (-8), 3) := by decide +kernel
theorem dX8_putFour_36 : decode cX8_putFour 36 = .ok (.goto (-33), 3) := by decide +kernel
theorem dX8_putFour_39 : decode cX8_putFour 39 = .ok (.return_, 1) := by decide +kernel
theorem dX8_text_0 : decode cX8_text 0 = .ok (.iload_n 1, 1) := by decide +kernel
theorem dX8_text_1 : decode cX8_text 1 = .ok (.ifCond .lt 11, 3) := by decide +kernel
theorem dX8_text_4 : decode cX8_text 4 = .ok (.iload_n 1, 1) := by decide +kernel
theorem dX8_text_5 : decode cX8_text 5 = .ok (.aload_n 0, 1) := by decide +kernel
theorem dX8_text_6 : decode cX8_text 6 = .ok (.getfield 68, 3) := by decide +kernel
theorem dX8_text_9 : decode cX8_text 9 = .ok (.if_icmp .le 6, 3) := by decide +kernel
theorem dX8_text_12 : decode cX8_text 12 = .ok (.bipush (-2), 2) := by decide +kernel
theorem dX8_text_14 : decode cX8_text 14 = .ok (.ireturn, 1) := by decide +kernel
theorem dX8_text_15 : decode cX8_text 15 = .ok (.aload_n 0, 1) := by decide +kernel
theorem dX8_text_16 : decode cX8_text 16 = .ok (.iconst 0, 1) := by decide +kernel
theorem dX8_text_17 : decode cX8_text 17 = .ok (.putfield 68, 3) := by decide +kernel
theorem dX8_text_20 : decode cX8_text 20 = .ok (.aload_n 0, 1) := by decide +kernel
theorem dX8_text_21 : decode cX8_text 21 = .ok (.getfield 25, 3) := by decide +kernel
theorem dX8_text_24 : decode cX8_text 24 = .ok (.iload_n 1, 1) := by decide +kernel
theorem dX8_text_25 : decode cX8_text 25 = .ok (.invokevirtual 76, 3) := by decide +kernel
theorem dX8_text_28 : decode cX8_text 28 = .ok (.ifCond .ne 5, 3) := by decide +kernel
theorem dX8_text_31 : decode cX8_text 31 = .ok (.iconst (-1), 1) := by decide +kernel
theorem dX8_text_32 : decode cX8_text 32 = .ok (.ireturn, 1) := by decide +kernel
theorem dX8_text_33 : decode cX8_text 33 = .ok (.aload_n 0, 1) := by decide +kernel
theorem dX8_text_34 : decode cX8_text 34 = .ok (.getfield 16, 3) := by decide +kernel
theorem dX8_text_37 : decode cX8_text 37 = .ok (.aload_n 0, 1) := by decide +kernel
theorem dX8_text_38 : decode cX8_text 38 = .ok (.getfield 25, 3) := by decide +kernel
theorem dX8_text_41 : decode cX8_text 41 = .ok (.getfield 80, 3) := by decide +kernel
theorem dX8_text_44 : decode cX8_text 44 = .ok (.invokevirtual 83, 3) := by decide +kernel
theorem dX8_text_47 : decode cX8_text 47 = .ok (.aload_n 0, 1) := by decide +kernel
theorem dX8_text_48 : decode cX8_text 48 = .ok (.getfield 32, 3) := by decide +kernel
theorem dX8_text_51 : decode cX8_text 51 = .ok (.invokevirtual 86, 3) := by decide +kernel
theorem dX8_text_54 : decode cX8_text 54 = .ok (.aload_n 0, 1) := by decide +kernel
theorem dX8_text_55 : decode cX8_text 55 = .ok (.getfield 32, 3) := by decide +kernel
theorem dX8_text_58 : decode cX8_text 58 = .ok (.iconst 0, 1) := by decide +kernel
theorem dX8_text_59 : decode cX8_text 59 = .ok (.putfield 89, 3) := by decide +kernel
theorem dX8_text_62 : decode cX8_text 62 = .ok (.aload_n 0, 1) := by decide +kernel
theorem dX8_text_63 : decode cX8_text 63 = .ok (.invokevirtual 93, 3) := by decide +kernel
theorem dX8_text_66 : decode cX8_text 66 = .ok (.aload_n 0, 1) := by decide +kernel
theorem dX8_text_67 : decode cX8_text 67 = .ok (.getfield 25, 3) := by decide +kernel
theorem dX8_text_70 : decode cX8_text 70 = .ok (.getfield 96, 3) := by decide +kernel
theorem dX8_text_73 : decode cX8_text 73 = .ok (.ireturn, 1) := by decide +kernel
theorem dX8_fault_0 : decode cX8_fault 0 = .ok (.iload_n 1, 1) := by decide +kernel
theorem dX8_fault_1 : decode cX8_fault 1 = .ok (.ifCond .ne 11, 3) := by decide +kernel
theorem dX8_fault_4 : decode cX8_fault 4 = .ok (.aload_n 0, 1) := by decide +kernel
theorem dX8_fault_5 : decode cX8_fault 5 = .ok (.getfield 25, 3) := by decide +kernel
theorem dX8_fault_8 : decode cX8_fault 8 = .ok (.getfield 99, 3) := by decide +kernel
theorem dX8_fault_11 : decode cX8_fault 11 = .ok (.ireturn, 1) := by decide +kernel
theorem dX8_fault_12 : decode cX8_fault 12 = .ok (.iload_n 1, 1) := by decide +kernel
theorem dX8_fault_13 : decode cX8_fault 13 = .ok (.iconst 1, 1) := by decide +kernel
theorem dX8_fault_14 : decode cX8_fault 14 = .ok (.if_icmp .ne 13, 3) := by decide +kernel
theorem dX8_fault_17 : decode cX8_fault 17 = .ok (.aload_n 0, 1) := by decide +kernel
theorem dX8_fault_18 : decode cX8_fault 18 = .ok (.getfield 25, 3) := by decide +kernel
theorem dX8_fault_21 : decode cX8_fault 21 = .ok (.getfield 102, 3) := by decide +kernel
theorem dX8_fault_24 : decode cX8_fault 24 = .ok (.goto 4, 3) := by decide +kernel
theorem dX8_fault_27 : decode cX8_fault 27 = .ok (.iconst (-1), 1) := by decide +kernel
theorem dX8_fault_28 : decode cX8_fault 28 = .ok (.ireturn, 1) := by decide +kernel
theorem dX8_named_0 : decode cX8_named 0 = .ok (.iload_n 1, 1) := by decide +kernel
theorem dX8_named_1 : decode cX8_named 1 = .ok (.ifCond .ne 22, 3) := by decide +kernel
theorem dX8_named_4 : decode cX8_named 4 = .ok (.aload_n 0, 1) := by decide +kernel
theorem dX8_named_5 : decode cX8_named 5 = .ok (.getfield 16, 3) := by decide +kernel
theorem dX8_named_8 : decode cX8_named 8 = .ok (.getfield 105, 3) := by decide +kernel
theorem dX8_named_11 : decode cX8_named 11 = .ok (.aload_n 0, 1) := by decide +kernel
theorem dX8_named_12 : decode cX8_named 12 = .ok (.getfield 16, 3) := by decide +kernel
theorem dX8_named_15 : decode cX8_named 15 = .ok (.getfield 108, 3) := by decide +kernel
theorem dX8_named_18 : decode cX8_named 18 = .ok (.iload_n 2, 1) := by decide +kernel
theorem dX8_named_19 : decode cX8_named 19 = .ok (.invokestatic 111, 3) := by decide +kernel
theorem dX8_named_22 : decode cX8_named 22 = .ok (.ireturn, 1) := by decide +kernel
theorem dX8_named_23 : decode cX8_named 23 = .ok (.iload_n 1, 1) := by decide +kernel
theorem dX8_named_24 : decode cX8_named 24 = .ok (.iconst 1, 1) := by decide +kernel
theorem dX8_named_25 : decode cX8_named 25 = .ok (.if_icmp .ne 24, 3) := by decide +kernel
theorem dX8_named_28 : decode cX8_named 28 = .ok (.aload_n 0, 1) := by decide +kernel
theorem dX8_named_29 : decode cX8_named 29 = .ok (.getfield 16, 3) := by decide +kernel
theorem dX8_named_32 : decode cX8_named 32 = .ok (.getfield 115, 3) := by decide +kernel
theorem dX8_named_35 : decode cX8_named 35 = .ok (.aload_n 0, 1) := by decide +kernel
theorem dX8_named_36 : decode cX8_named 36 = .ok (.getfield 16, 3) := by decide +kernel
theorem dX8_named_39 : decode cX8_named 39 = .ok (.getfield 118, 3) := by decide +kernel
theorem dX8_named_42 : decode cX8_named 42 = .ok (.iload_n 2, 1) := by decide +kernel
theorem dX8_named_43 : decode cX8_named 43 = .ok (.invokestatic 111, 3) := by decide +kernel
theorem dX8_named_46 : decode cX8_named 46 = .ok (.goto 4, 3) := by decide +kernel
theorem dX8_named_49 : decode cX8_named 49 = .ok (.iconst (-1), 1) := by decide +kernel
theorem dX8_named_50 : decode cX8_named 50 = .ok (.ireturn, 1) := by decide +kernel
theorem dX8_find_0 : decode cX8_find 0 = .ok (.iconst 0, 1) := by decide +kernel
theorem dX8_find_1 : decode cX8_find 1 = .ok (.istore_n 3, 1) := by decide +kernel
theorem dX8_find_2 : decode cX8_find 2 = .ok (.iload_n 3, 1) := by decide +kernel
theorem dX8_find_3 : decode cX8_find 3 = .ok (.iload_n 1, 1) := by decide +kernel
theorem dX8_find_4 : decode cX8_find 4 = .ok (.if_icmp .ge 18, 3) := by decide +kernel
theorem dX8_find_7 : decode cX8_find 7 = .ok (.aload_n 0, 1) := by decide +kernel
theorem dX8_find_8 : decode cX8_find 8 = .ok (.iload_n 3, 1) := by decide +kernel
theorem dX8_find_9 : decode cX8_find 9 = .ok (.iaload, 1) := by decide +kernel
theorem dX8_find_10 : decode cX8_find 10 = .ok (.iload_n 2, 1) := by decide +kernel
theorem dX8_find_11 : decode cX8_find 11 = .ok (.if_icmp .ne 5, 3) := by decide +kernel
theorem dX8_find_14 : decode cX8_find 14 = .ok (.iload_n 3, 1) := by decide +kernel
theorem dX8_find_15 : decode cX8_find 15 = .ok (.ireturn, 1) := by decide +kernel
theorem dX8_find_16 : decode cX8_find 16 = .ok (.iinc 3 1, 3) := by decide +kernel
theorem dX8_find_19 : decode cX8_find 19 = .ok (.goto (-17), 3) := by decide +kernel
theorem dX8_find_22 : decode cX8_find 22 = .ok (.iconst (-1), 1) := by decide +kernel
theorem dX8_find_23 : decode cX8_find 23 = .ok (.ireturn, 1) := by decide +kernel
theorem dX8_forgetAnswers_0 : decode cX8_forgetAnswers 0 = .ok (.aload_n 0, 1) := by decide +kernel
theorem dX8_forgetAnswers_1 : decode cX8_forgetAnswers 1 = .ok (.getfield 41, 3) := by decide +kernel
theorem dX8_forgetAnswers_4 : decode cX8_forgetAnswers 4 = .ok (.iconst 0, 1) := by decide +kernel
theorem dX8_forgetAnswers_5 : decode cX8_forgetAnswers 5 = .ok (.putfield 121, 3) := by decide +kernel
theorem dX8_forgetAnswers_8 : decode cX8_forgetAnswers 8 = .ok (.aload_n 0, 1) := by decide +kernel
theorem dX8_forgetAnswers_9 : decode cX8_forgetAnswers 9 = .ok (.getfield 55, 3) := by decide +kernel
theorem dX8_forgetAnswers_12 : decode cX8_forgetAnswers 12 = .ok (.iconst 0, 1) := by decide +kernel
theorem dX8_forgetAnswers_13 : decode cX8_forgetAnswers 13 = .ok (.putfield 124, 3) := by decide +kernel
theorem dX8_forgetAnswers_16 : decode cX8_forgetAnswers 16 = .ok (.return_, 1) := by decide +kernel
theorem dX8_beginChange_0 : decode cX8_beginChange 0 = .ok (.aload_n 0, 1) := by decide +kernel
theorem dX8_beginChange_1 : decode cX8_beginChange 1 = .ok (.getfield 32, 3) := by decide +kernel
theorem dX8_beginChange_4 : decode cX8_beginChange 4 = .ok (.aload_n 0, 1) := by decide +kernel
theorem dX8_beginChange_5 : decode cX8_beginChange 5 = .ok (.getfield 16, 3) := by decide +kernel
theorem dX8_beginChange_8 : decode cX8_beginChange 8 = .ok (.invokevirtual 125, 3) := by decide +kernel
theorem dX8_beginChange_11 : decode cX8_beginChange 11 = .ok (.aload_n 0, 1) := by decide +kernel
theorem dX8_beginChange_12 : decode cX8_beginChange 12 = .ok (.invokevirtual 93, 3) := by decide +kernel
theorem dX8_beginChange_15 : decode cX8_beginChange 15 = .ok (.return_, 1) := by decide +kernel
theorem dX8_period_0 : decode cX8_period 0 = .ok (.iload_n 1, 1) := by decide +kernel
theorem dX8_period_1 : decode cX8_period 1 = .ok (.iconst 1, 1) := by decide +kernel
theorem dX8_period_2 : decode cX8_period 2 = .ok (.if_icmp .lt 10, 3) := by decide +kernel
theorem dX8_period_5 : decode cX8_period 5 = .ok (.iload_n 1, 1) := by decide +kernel
theorem dX8_period_6 : decode cX8_period 6 = .ok (.sipush 9999, 3) := by decide +kernel
theorem dX8_period_9 : decode cX8_period 9 = .ok (.if_icmp .le 5, 3) := by decide +kernel
theorem dX8_period_12 : decode cX8_period 12 = .ok (.iconst (-1), 1) := by decide +kernel
theorem dX8_period_13 : decode cX8_period 13 = .ok (.ireturn, 1) := by decide +kernel
theorem dX8_period_14 : decode cX8_period 14 = .ok (.aload_n 0, 1) := by decide +kernel
theorem dX8_period_15 : decode cX8_period 15 = .ok (.getfield 16, 3) := by decide +kernel
theorem dX8_period_18 : decode cX8_period 18 = .ok (.getfield 128, 3) := by decide +kernel
theorem dX8_period_21 : decode cX8_period 21 = .ok (.istore_n 2, 1) := by decide +kernel
theorem dX8_period_22 : decode cX8_period 22 = .ok (.aload_n 0, 1) := by decide +kernel
theorem dX8_period_23 : decode cX8_period 23 = .ok (.invokevirtual 131, 3) := by decide +kernel
theorem dX8_period_26 : decode cX8_period 26 = .ok (.aload_n 0, 1) := by decide +kernel
theorem dX8_period_27 : decode cX8_period 27 = .ok (.getfield 16, 3) := by decide +kernel
theorem dX8_period_30 : decode cX8_period 30 = .ok (.iload_n 1, 1) := by decide +kernel
theorem dX8_period_31 : decode cX8_period 31 = .ok (.putfield 128, 3) := by decide +kernel
theorem dX8_period_34 : decode cX8_period 34 = .ok (.iload_n 2, 1) := by decide +kernel
theorem dX8_period_35 : decode cX8_period 35 = .ok (.ireturn, 1) := by decide +kernel
theorem dX8_phase_0 : decode cX8_phase 0 = .ok (.aload_n 0, 1) := by decide +kernel
theorem dX8_phase_1 : decode cX8_phase 1 = .ok (.getfield 16, 3) := by decide +kernel
theorem dX8_phase_4 : decode cX8_phase 4 = .ok (.iload_n 1, 1) := by decide +kernel
theorem dX8_phase_5 : decode cX8_phase 5 = .ok (.invokevirtual 134, 3) := by decide +kernel
theorem dX8_phase_8 : decode cX8_phase 8 = .ok (.ifCond .eq 24, 3) := by decide +kernel
theorem dX8_phase_11 : decode cX8_phase 11 = .ok (.iload_n 2, 1) := by decide +kernel
theorem dX8_phase_12 : decode cX8_phase 12 = .ok (.ifCond .lt 20, 3) := by decide +kernel
theorem dX8_phase_15 : decode cX8_phase 15 = .ok (.iload_n 2, 1) := by decide +kernel
theorem dX8_phase_16 : decode cX8_phase 16 = .ok (.bipush 64, 2) := by decide +kernel
theorem dX8_phase_18 : decode cX8_phase 18 = .ok (.if_icmp .ge 14, 3) := by decide +kernel
theorem dX8_phase_21 : decode cX8_phase 21 = .ok (.iload_n 3, 1) := by decide +kernel
theorem dX8_phase_22 : decode cX8_phase 22 = .ok (.iconst 1, 1) := by decide +kernel
theorem dX8_phase_23 : decode cX8_phase 23 = .ok (.if_icmp .lt 9, 3) := by decide +kernel
theorem dX8_phase_26 : decode cX8_phase 26 = .ok (.iload_n 3, 1) := by decide +kernel
theorem dX8_phase_27 : decode cX8_phase 27 = .ok (.bipush 64, 2) := by decide +kernel
theorem dX8_phase_29 : decode cX8_phase 29 = .ok (.if_icmp .lt 5, 3) := by decide +kernel
theorem dX8_phase_32 : decode cX8_phase 32 = .ok (.iconst 0, 1) := by decide +kernel
theorem dX8_phase_33 : decode cX8_phase 33 = .ok (.ireturn, 1) := by decide +kernel
theorem dX8_phase_34 : decode cX8_phase 34 = .ok (.aload_n 0, 1) := by decide +kernel
theorem dX8_phase_35 : decode cX8_phase 35 = .ok (.invokevirtual 131, 3) := by decide +kernel
theorem dX8_phase_38 : decode cX8_phase 38 = .ok (.aload_n 0, 1) := by decide +kernel
theorem dX8_phase_39 : decode cX8_phase 39 = .ok (.getfield 16, 3) := by decide +kernel
theorem dX8_phase_42 : decode cX8_phase 42 = .ok (.getfield 137, 3) := by decide +kernel
theorem dX8_phase_45 : decode cX8_phase 45 = .ok (.iload_n 1, 1) := by decide +kernel
theorem dX8_phase_46 : decode cX8_phase 46 = .ok (.iload_n 2, 1) := by decide +kernel
theorem dX8_phase_47 : decode cX8_phase 47 = .ok (.iastore, 1) := by decide +kernel
theorem dX8_phase_48 : decode cX8_phase 48 = .ok (.aload_n 0, 1) := by decide +kernel
theorem dX8_phase_49 : decode cX8_phase 49 = .ok (.getfield 16, 3) := by decide +kernel
theorem dX8_phase_52 : decode cX8_phase 52 = .ok (.getfield 140, 3) := by decide +kernel
theorem dX8_phase_55 : decode cX8_phase 55 = .ok (.iload_n 1, 1) := by decide +kernel
theorem dX8_phase_56 : decode cX8_phase 56 = .ok (.iload_n 3, 1) := by decide +kernel
theorem dX8_phase_57 : decode cX8_phase 57 = .ok (.iastore, 1) := by decide +kernel
theorem dX8_phase_58 : decode cX8_phase 58 = .ok (.iconst 1, 1) := by decide +kernel
theorem dX8_phase_59 : decode cX8_phase 59 = .ok (.ireturn, 1) := by decide +kernel
theorem dX8_delay_0 : decode cX8_delay 0 = .ok (.aload_n 0, 1) := by decide +kernel
theorem dX8_delay_1 : decode cX8_delay 1 = .ok (.getfield 16, 3) := by decide +kernel
theorem dX8_delay_4 : decode cX8_delay 4 = .ok (.iload_n 1, 1) := by decide +kernel
theorem dX8_delay_5 : decode cX8_delay 5 = .ok (.invokevirtual 143, 3) := by decide +kernel
theorem dX8_delay_8 : decode cX8_delay 8 = .ok (.ifCond .eq 19, 3) := by decide +kernel
theorem dX8_delay_11 : decode cX8_delay 11 = .ok (.iload_n 2, 1) := by decide +kernel
theorem dX8_delay_12 : decode cX8_delay 12 = .ok (.sipush 999, 3) := by decide +kernel
theorem dX8_delay_15 : decode cX8_delay 15 = .ok (.if_icmp .gt 12, 3) := by decide +kernel
theorem dX8_delay_18 : decode cX8_delay 18 = .ok (.iload_n 3, 1) := by decide +kernel
theorem dX8_delay_19 : decode cX8_delay 19 = .ok (.ifCond .lt 8, 3) := by decide +kernel
theorem dX8_delay_22 : decode cX8_delay 22 = .ok (.iload_n 3, 1) := by decide +kernel
theorem dX8_delay_23 : decode cX8_delay 23 = .ok (.iload_n 2, 1) := by decide +kernel
theorem dX8_delay_24 : decode cX8_delay 24 = .ok (.if_icmp .le 5, 3) := by decide +kernel
theorem dX8_delay_27 : decode cX8_delay 27 = .ok (.iconst 0, 1) := by decide +kernel
theorem dX8_delay_28 : decode cX8_delay 28 = .ok (.ireturn, 1) := by decide +kernel
theorem dX8_delay_29 : decode cX8_delay 29 = .ok (.aload_n 0, 1) := by decide +kernel
theorem dX8_delay_30 : decode cX8_delay 30 = .ok (.invokevirtual 131, 3) := by decide +kernel
theorem dX8_delay_33 : decode cX8_delay 33 = .ok (.aload_n 0, 1) := by decide +kernel
theorem dX8_delay_34 : decode cX8_delay 34 = .ok (.getfield 16, 3) := by decide +kernel
theorem dX8_delay_37 : decode cX8_delay 37 = .ok (.getfield 146, 3) := by decide +kernel
theorem dX8_delay_40 : decode cX8_delay 40 = .ok (.iload_n 1, 1) := by decide +kernel
theorem dX8_delay_41 : decode cX8_delay 41 = .ok (.iload_n 2, 1) := by decide +kernel
theorem dX8_delay_42 : decode cX8_delay 42 = .ok (.iastore, 1) := by decide +kernel
theorem dX8_delay_43 : decode cX8_delay 43 = .ok (.aload_n 0, 1) := by decide +kernel
theorem dX8_delay_44 : decode cX8_delay 44 = .ok (.getfield 16, 3) := by decide +kernel
theorem dX8_delay_47 : decode cX8_delay 47 = .ok (.getfield 149, 3) := by decide +kernel
theorem dX8_delay_50 : decode cX8_delay 50 = .ok (.iload_n 1, 1) := by decide +kernel
theorem dX8_delay_51 : decode cX8_delay 51 = .ok (.iload_n 3, 1) := by decide +kernel
theorem dX8_delay_52 : decode cX8_delay 52 = .ok (.iastore, 1) := by decide +kernel
theorem dX8_delay_53 : decode cX8_delay 53 = .ok (.iconst 1, 1) := by decide +kernel
theorem dX8_delay_54 : decode cX8_delay 54 = .ok (.ireturn, 1) := by decide +kernel
theorem dX8_flop_0 : decode cX8_flop 0 = .ok (.aload_n 0, 1) := by decide +kernel
theorem dX8_flop_1 : decode cX8_flop 1 = .ok (.getfield 16, 3) := by decide +kernel
theorem dX8_flop_4 : decode cX8_flop 4 = .ok (.iload_n 1, 1) := by decide +kernel
theorem dX8_flop_5 : decode cX8_flop 5 = .ok (.invokevirtual 152, 3) := by decide +kernel
theorem dX8_flop_8 : decode cX8_flop 8 = .ok (.ifCond .ne 5, 3) := by decide +kernel
theorem dX8_flop_11 : decode cX8_flop 11 = .ok (.iconst (-1), 1) := by decide +kernel
theorem dX8_flop_12 : decode cX8_flop 12 = .ok (.ireturn, 1) := by decide +kernel
theorem dX8_flop_13 : decode cX8_flop 13 = .ok (.aload_n 0, 1) := by decide +kernel
theorem dX8_flop_14 : decode cX8_flop 14 = .ok (.invokevirtual 131, 3) := by decide +kernel
theorem dX8_flop_17 : decode cX8_flop 17 = .ok (.aload_n 0, 1) := by decide +kernel
theorem dX8_flop_18 : decode cX8_flop 18 = .ok (.getfield 16, 3) := by decide +kernel
theorem dX8_flop_21 : decode cX8_flop 21 = .ok (.dup, 1) := by decide +kernel
theorem dX8_flop_22 : decode cX8_flop 22 = .ok (.getfield 155, 3) := by decide +kernel
theorem dX8_flop_25 : decode cX8_flop 25 = .ok (.iconst 1, 1) := by decide +kernel
theorem dX8_flop_26 : decode cX8_flop 26 = .ok (.iload_n 1, 1) := by decide +kernel
theorem dX8_flop_27 : decode cX8_flop 27 = .ok (.ishl, 1) := by decide +kernel
theorem dX8_flop_28 : decode cX8_flop 28 = .ok (.ixor, 1) := by decide +kernel
theorem dX8_flop_29 : decode cX8_flop 29 = .ok (.putfield 155, 3) := by decide +kernel
theorem dX8_flop_32 : decode cX8_flop 32 = .ok (.aload_n 0, 1) := by decide +kernel
theorem dX8_flop_33 : decode cX8_flop 33 = .ok (.getfield 16, 3) := by decide +kernel
theorem dX8_flop_36 : decode cX8_flop 36 = .ok (.iload_n 1, 1) := by decide +kernel
theorem dX8_flop_37 : decode cX8_flop 37 = .ok (.invokevirtual 158, 3) := by decide +kernel
theorem dX8_flop_40 : decode cX8_flop 40 = .ok (.ifCond .eq 7, 3) := by decide +kernel
theorem dX8_flop_43 : decode cX8_flop 43 = .ok (.iconst 1, 1) := by decide +kernel
theorem dX8_flop_44 : decode cX8_flop 44 = .ok (.goto 4, 3) := by decide +kernel
theorem dX8_flop_47 : decode cX8_flop 47 = .ok (.iconst 0, 1) := by decide +kernel
theorem dX8_flop_48 : decode cX8_flop 48 = .ok (.ireturn, 1) := by decide +kernel
theorem dX8_skew_0 : decode cX8_skew 0 = .ok (.iload_n 1, 1) := by decide +kernel
theorem dX8_skew_1 : decode cX8_skew 1 = .ok (.ifCond .lt 9, 3) := by decide +kernel
theorem dX8_skew_4 : decode cX8_skew 4 = .ok (.iload_n 1, 1) := by decide +kernel
theorem dX8_skew_5 : decode cX8_skew 5 = .ok (.bipush 99, 2) := by decide +kernel
theorem dX8_skew_7 : decode cX8_skew 7 = .ok (.if_icmp .le 5, 3) := by decide +kernel
theorem dX8_skew_10 : decode cX8_skew 10 = .ok (.iconst (-1), 1) := by decide +kernel
theorem dX8_skew_11 : decode cX8_skew 11 = .ok (.ireturn, 1) := by decide +kernel
theorem dX8_skew_12 : decode cX8_skew 12 = .ok (.aload_n 0, 1) := by decide +kernel
theorem dX8_skew_13 : decode cX8_skew 13 = .ok (.getfield 16, 3) := by decide +kernel
theorem dX8_skew_16 : decode cX8_skew 16 = .ok (.getfield 161, 3) := by decide +kernel
theorem dX8_skew_19 : decode cX8_skew 19 = .ok (.istore_n 2, 1) := by decide +kernel
theorem dX8_skew_20 : decode cX8_skew 20 = .ok (.aload_n 0, 1) := by decide +kernel
theorem dX8_skew_21 : decode cX8_skew 21 = .ok (.invokevirtual 131, 3) := by decide +kernel
theorem dX8_skew_24 : decode cX8_skew 24 = .ok (.aload_n 0, 1) := by decide +kernel
theorem dX8_skew_25 : decode cX8_skew 25 = .ok (.getfield 16, 3) := by decide +kernel
theorem dX8_skew_28 : decode cX8_skew 28 = .ok (.iload_n 1, 1) := by decide +kernel
theorem dX8_skew_29 : decode cX8_skew 29 = .ok (.putfield 161, 3) := by decide +kernel
theorem dX8_skew_32 : decode cX8_skew 32 = .ok (.iload_n 2, 1) := by decide +kernel
theorem dX8_skew_33 : decode cX8_skew 33 = .ok (.ireturn, 1) := by decide +kernel
theorem dX8_move_0 : decode cX8_move 0 = .ok (.aload_n 0, 1) := by decide +kernel
theorem dX8_move_1 : decode cX8_move 1 = .ok (.getfield 16, 3) := by decide +kernel
theorem dX8_move_4 : decode cX8_move 4 = .ok (.iload_n 1, 1) := by decide +kernel
theorem dX8_move_5 : decode cX8_move 5 = .ok (.invokevirtual 152, 3) := by decide +kernel
theorem dX8_move_8 : decode cX8_move 8 = .ok (.ifCond .eq 27, 3) := by decide +kernel
theorem dX8_move_11 : decode cX8_move 11 = .ok (.iload_n 2, 1) := by decide +kernel
theorem dX8_move_12 : decode cX8_move 12 = .ok (.aload_n 0, 1) := by decide +kernel
theorem dX8_move_13 : decode cX8_move 13 = .ok (.getfield 16, 3) := by decide +kernel
theorem dX8_move_16 : decode cX8_move 16 = .ok (.iload_n 1, 1) := by decide +kernel
theorem dX8_move_17 : decode cX8_move 17 = .ok (.invokevirtual 164, 3) := by decide +kernel
theorem dX8_move_20 : decode cX8_move 20 = .ok (.if_icmp .lt 15, 3) := by decide +kernel
theorem dX8_move_23 : decode cX8_move 23 = .ok (.iload_n 2, 1) := by decide +kernel
theorem dX8_move_24 : decode cX8_move 24 = .ok (.aload_n 0, 1) := by decide +kernel
theorem dX8_move_25 : decode cX8_move 25 = .ok (.getfield 16, 3) := by decide +kernel
theorem dX8_move_28 : decode cX8_move 28 = .ok (.iload_n 1, 1) := by decide +kernel
theorem dX8_move_29 : decode cX8_move 29 = .ok (.invokevirtual 168, 3) := by decide +kernel
theorem dX8_move_32 : decode cX8_move 32 = .ok (.if_icmp .le 5, 3) := by decide +kernel
theorem dX8_move_35 : decode cX8_move 35 = .ok (.iconst 0, 1) := by decide +kernel
theorem dX8_move_36 : decode cX8_move 36 = .ok (.ireturn, 1) := by decide +kernel
theorem dX8_move_37 : decode cX8_move 37 = .ok (.aload_n 0, 1) := by decide +kernel
theorem dX8_move_38 : decode cX8_move 38 = .ok (.invokevirtual 131, 3) := by decide +kernel
theorem dX8_move_41 : decode cX8_move 41 = .ok (.aload_n 0, 1) := by decide +kernel
theorem dX8_move_42 : decode cX8_move 42 = .ok (.getfield 16, 3) := by decide +kernel
theorem dX8_move_45 : decode cX8_move 45 = .ok (.iload_n 1, 1) := by decide +kernel
theorem dX8_move_46 : decode cX8_move 46 = .ok (.iload_n 2, 1) := by decide +kernel
theorem dX8_move_47 : decode cX8_move 47 = .ok (.invokevirtual 171, 3) := by decide +kernel
theorem dX8_move_50 : decode cX8_move 50 = .ok (.iconst 1, 1) := by decide +kernel
theorem dX8_move_51 : decode cX8_move 51 = .ok (.ireturn, 1) := by decide +kernel
theorem dX8_cell_0 : decode cX8_cell 0 = .ok (.aload_n 0, 1) := by decide +kernel
theorem dX8_cell_1 : decode cX8_cell 1 = .ok (.getfield 16, 3) := by decide +kernel
theorem dX8_cell_4 : decode cX8_cell 4 = .ok (.iload_n 1, 1) := by decide +kernel
theorem dX8_cell_5 : decode cX8_cell 5 = .ok (.invokevirtual 152, 3) := by decide +kernel
theorem dX8_cell_8 : decode cX8_cell 8 = .ok (.ifCond .ne 13, 3) := by decide +kernel
theorem dX8_cell_11 : decode cX8_cell 11 = .ok (.new 175, 3) := by decide +kernel
theorem dX8_cell_14 : decode cX8_cell 14 = .ok (.dup, 1) := by decide +kernel
theorem dX8_cell_15 : decode cX8_cell 15 = .ok (.ldc 177, 2) := by decide +kernel
theorem dX8_cell_17 : decode cX8_cell 17 = .ok (.invokespecial 179, 3) := by decide +kernel
theorem dX8_cell_20 : decode cX8_cell 20 = .ok (.athrow, 1) := by decide +kernel
theorem dX8_cell_21 : decode cX8_cell 21 = .ok (.iload_n 2, 1) := by decide +kernel
theorem dX8_cell_22 : decode cX8_cell 22 = .ok (.tableswitch 137 0 6 #[42, 52, 62, 72, 82, 99, 118], 42) := by decide +kernel
theorem dX8_cell_64 : decode cX8_cell 64 = .ok (.aload_n 0, 1) := by decide +kernel
theorem dX8_cell_65 : decode cX8_cell 65 = .ok (.getfield 16, 3) := by decide +kernel
theorem dX8_cell_68 : decode cX8_cell 68 = .ok (.getfield 182, 3) := by decide +kernel
theorem dX8_cell_71 : decode cX8_cell 71 = .ok (.iload_n 1, 1) := by decide +kernel
theorem dX8_cell_72 : decode cX8_cell 72 = .ok (.iaload, 1) := by decide +kernel
theorem dX8_cell_73 : decode cX8_cell 73 = .ok (.ireturn, 1) := by decide +kernel
theorem dX8_cell_74 : decode cX8_cell 74 = .ok (.aload_n 0, 1) := by decide +kernel
theorem dX8_cell_75 : decode cX8_cell 75 = .ok (.getfield 16, 3) := by decide +kernel
theorem dX8_cell_78 : decode cX8_cell 78 = .ok (.getfield 185, 3) := by decide +kernel
theorem dX8_cell_81 : decode cX8_cell 81 = .ok (.iload_n 1, 1) := by decide +kernel
theorem dX8_cell_82 : decode cX8_cell 82 = .ok (.iaload, 1) := by decide +kernel
theorem dX8_cell_83 : decode cX8_cell 83 = .ok (.ireturn, 1) := by decide +kernel
theorem dX8_cell_84 : decode cX8_cell 84 = .ok (.aload_n 0, 1) := by decide +kernel
theorem dX8_cell_85 : decode cX8_cell 85 = .ok (.getfield 16, 3) := by decide +kernel
theorem dX8_cell_88 : decode cX8_cell 88 = .ok (.getfield 188, 3) := by decide +kernel
theorem dX8_cell_91 : decode cX8_cell 91 = .ok (.iload_n 1, 1) := by decide +kernel
theorem dX8_cell_92 : decode cX8_cell 92 = .ok (.iaload, 1) := by decide +kernel
theorem dX8_cell_93 : decode cX8_cell 93 = .ok (.ireturn, 1) := by decide +kernel
theorem dX8_cell_94 : decode cX8_cell 94 = .ok (.aload_n 0, 1) := by decide +kernel
theorem dX8_cell_95 : decode cX8_cell 95 = .ok (.getfield 16, 3) := by decide +kernel
theorem dX8_cell_98 : decode cX8_cell 98 = .ok (.getfield 191, 3) := by decide +kernel
theorem dX8_cell_101 : decode cX8_cell 101 = .ok (.iload_n 1, 1) := by decide +kernel
theorem dX8_cell_102 : decode cX8_cell 102 = .ok (.iaload, 1) := by decide +kernel
theorem dX8_cell_103 : decode cX8_cell 103 = .ok (.ireturn, 1) := by decide +kernel
theorem dX8_cell_104 : decode cX8_cell 104 = .ok (.aload_n 0, 1) := by decide +kernel
theorem dX8_cell_105 : decode cX8_cell 105 = .ok (.getfield 16, 3) := by decide +kernel
theorem dX8_cell_108 : decode cX8_cell 108 = .ok (.iload_n 1, 1) := by decide +kernel
theorem dX8_cell_109 : decode cX8_cell 109 = .ok (.invokevirtual 158, 3) := by decide +kernel
theorem dX8_cell_112 : decode cX8_cell 112 = .ok (.ifCond .eq 7, 3) := by decide +kernel
theorem dX8_cell_115 : decode cX8_cell 115 = .ok (.iconst 1, 1) := by decide +kernel
theorem dX8_cell_116 : decode cX8_cell 116 = .ok (.goto 4, 3) := by decide +kernel
theorem dX8_cell_119 : decode cX8_cell 119 = .ok (.iconst 0, 1) := by decide +kernel
theorem dX8_cell_120 : decode cX8_cell 120 = .ok (.ireturn, 1) := by decide +kernel
theorem dX8_cell_121 : decode cX8_cell 121 = .ok (.aload_n 0, 1) := by decide +kernel
theorem dX8_cell_122 : decode cX8_cell 122 = .ok (.getfield 16, 3) := by decide +kernel
theorem dX8_cell_125 : decode cX8_cell 125 = .ok (.getfield 194, 3) := by decide +kernel
theorem dX8_cell_128 : decode cX8_cell 128 = .ok (.aload_n 0, 1) := by decide +kernel
theorem dX8_cell_129 : decode cX8_cell 129 = .ok (.getfield 16, 3) := by decide +kernel
theorem dX8_cell_132 : decode cX8_cell 132 = .ok (.getfield 197, 3) := by decide +kernel
theorem dX8_cell_135 : decode cX8_cell 135 = .ok (.iload_n 1, 1) := by decide +kernel
theorem dX8_cell_136 : decode cX8_cell 136 = .ok (.invokestatic 200, 3) := by decide +kernel
theorem dX8_cell_139 : decode cX8_cell 139 = .ok (.ireturn, 1) := by decide +kernel
theorem dX8_cell_140 : decode cX8_cell 140 = .ok (.aload_n 0, 1) := by decide +kernel
theorem dX8_cell_141 : decode cX8_cell 141 = .ok (.getfield 16, 3) := by decide +kernel
theorem dX8_cell_144 : decode cX8_cell 144 = .ok (.getfield 203, 3) := by decide +kernel
theorem dX8_cell_147 : decode cX8_cell 147 = .ok (.aload_n 0, 1) := by decide +kernel
theorem dX8_cell_148 : decode cX8_cell 148 = .ok (.getfield 16, 3) := by decide +kernel
theorem dX8_cell_151 : decode cX8_cell 151 = .ok (.getfield 197, 3) := by decide +kernel
theorem dX8_cell_154 : decode cX8_cell 154 = .ok (.iload_n 1, 1) := by decide +kernel
theorem dX8_cell_155 : decode cX8_cell 155 = .ok (.invokestatic 200, 3) := by decide +kernel
theorem dX8_cell_158 : decode cX8_cell 158 = .ok (.ireturn, 1) := by decide +kernel
theorem dX8_cell_159 : decode cX8_cell 159 = .ok (.new 206, 3) := by decide +kernel
theorem dX8_cell_162 : decode cX8_cell 162 = .ok (.dup, 1) := by decide +kernel
theorem dX8_cell_163 : decode cX8_cell 163 = .ok (.ldc 208, 2) := by decide +kernel
theorem dX8_cell_165 : decode cX8_cell 165 = .ok (.invokespecial 210, 3) := by decide +kernel
theorem dX8_cell_168 : decode cX8_cell 168 = .ok (.athrow, 1) := by decide +kernel
theorem dX8_countOf_0 : decode cX8_countOf 0 = .ok (.iconst 0, 1) := by decide +kernel
theorem dX8_countOf_1 : decode cX8_countOf 1 = .ok (.istore_n 3, 1) := by decide +kernel
theorem dX8_countOf_2 : decode cX8_countOf 2 = .ok (.iconst 0, 1) := by decide +kernel
theorem dX8_countOf_3 : decode cX8_countOf 3 = .ok (.istore 4, 2) := by decide +kernel
theorem dX8_countOf_5 : decode cX8_countOf 5 = .ok (.iload 4, 2) := by decide +kernel
theorem dX8_countOf_7 : decode cX8_countOf 7 = .ok (.iload_n 1, 1) := by decide +kernel
theorem dX8_countOf_8 : decode cX8_countOf 8 = .ok (.if_icmp .ge 20, 3) := by decide +kernel
theorem dX8_countOf_11 : decode cX8_countOf 11 = .ok (.aload_n 0, 1) := by decide +kernel
theorem dX8_countOf_12 : decode cX8_countOf 12 = .ok (.iload 4, 2) := by decide +kernel
theorem dX8_countOf_14 : decode cX8_countOf 14 = .ok (.iaload, 1) := by decide +kernel
theorem dX8_countOf_15 : decode cX8_countOf 15 = .ok (.iload_n 2, 1) := by decide +kernel
theorem dX8_countOf_16 : decode cX8_countOf 16 = .ok (.if_icmp .ne 6, 3) := by decide +kernel
theorem dX8_countOf_19 : decode cX8_countOf 19 = .ok (.iinc 3 1, 3) := by decide +kernel
theorem dX8_countOf_22 : decode cX8_countOf 22 = .ok (.iinc 4 1, 3) := by decide +kernel
theorem dX8_countOf_25 : decode cX8_countOf 25 = .ok (.goto (-20), 3) := by decide +kernel
theorem dX8_countOf_28 : decode cX8_countOf 28 = .ok (.iload_n 3, 1) := by decide +kernel
theorem dX8_countOf_29 : decode cX8_countOf 29 = .ok (.ireturn, 1) := by decide +kernel
theorem dX8_path_0 : decode cX8_path 0 = .ok (.aload_n 0, 1) := by decide +kernel
theorem dX8_path_1 : decode cX8_path 1 = .ok (.getfield 16, 3) := by decide +kernel
theorem dX8_path_4 : decode cX8_path 4 = .ok (.iload_n 1, 1) := by decide +kernel
theorem dX8_path_5 : decode cX8_path 5 = .ok (.invokevirtual 143, 3) := by decide +kernel
theorem dX8_path_8 : decode cX8_path 8 = .ok (.ifCond .ne 5, 3) := by decide +kernel
theorem dX8_path_11 : decode cX8_path 11 = .ok (.iconst (-1), 1) := by decide +kernel
theorem dX8_path_12 : decode cX8_path 12 = .ok (.ireturn, 1) := by decide +kernel
theorem dX8_path_13 : decode cX8_path 13 = .ok (.iload_n 2, 1) := by decide +kernel
theorem dX8_path_14 : decode cX8_path 14 = .ok (.tableswitch 83 0 4 #[34, 44, 54, 64, 74], 34) := by decide +kernel
theorem dX8_path_48 : decode cX8_path 48 = .ok (.aload_n 0, 1) := by decide +kernel
theorem dX8_path_49 : decode cX8_path 49 = .ok (.getfield 16, 3) := by decide +kernel
theorem dX8_path_52 : decode cX8_path 52 = .ok (.getfield 203, 3) := by decide +kernel
theorem dX8_path_55 : decode cX8_path 55 = .ok (.iload_n 1, 1) := by decide +kernel
theorem dX8_path_56 : decode cX8_path 56 = .ok (.iaload, 1) := by decide +kernel
theorem dX8_path_57 : decode cX8_path 57 = .ok (.ireturn, 1) := by decide +kernel
theorem dX8_path_58 : decode cX8_path 58 = .ok (.aload_n 0, 1) := by decide +kernel
theorem dX8_path_59 : decode cX8_path 59 = .ok (.getfield 16, 3) := by decide +kernel
theorem dX8_path_62 : decode cX8_path 62 = .ok (.getfield 194, 3) := by decide +kernel
theorem dX8_path_65 : decode cX8_path 65 = .ok (.iload_n 1, 1) := by decide +kernel
theorem dX8_path_66 : decode cX8_path 66 = .ok (.iaload, 1) := by decide +kernel
theorem dX8_path_67 : decode cX8_path 67 = .ok (.ireturn, 1) := by decide +kernel
theorem dX8_path_68 : decode cX8_path 68 = .ok (.aload_n 0, 1) := by decide +kernel
theorem dX8_path_69 : decode cX8_path 69 = .ok (.getfield 16, 3) := by decide +kernel
theorem dX8_path_72 : decode cX8_path 72 = .ok (.getfield 146, 3) := by decide +kernel
theorem dX8_path_75 : decode cX8_path 75 = .ok (.iload_n 1, 1) := by decide +kernel
theorem dX8_path_76 : decode cX8_path 76 = .ok (.iaload, 1) := by decide +kernel
theorem dX8_path_77 : decode cX8_path 77 = .ok (.ireturn, 1) := by decide +kernel
theorem dX8_path_78 : decode cX8_path 78 = .ok (.aload_n 0, 1) := by decide +kernel
theorem dX8_path_79 : decode cX8_path 79 = .ok (.getfield 16, 3) := by decide +kernel
theorem dX8_path_82 : decode cX8_path 82 = .ok (.getfield 149, 3) := by decide +kernel
theorem dX8_path_85 : decode cX8_path 85 = .ok (.iload_n 1, 1) := by decide +kernel
theorem dX8_path_86 : decode cX8_path 86 = .ok (.iaload, 1) := by decide +kernel
theorem dX8_path_87 : decode cX8_path 87 = .ok (.ireturn, 1) := by decide +kernel
theorem dX8_path_88 : decode cX8_path 88 = .ok (.aload_n 0, 1) := by decide +kernel
theorem dX8_path_89 : decode cX8_path 89 = .ok (.getfield 16, 3) := by decide +kernel
theorem dX8_path_92 : decode cX8_path 92 = .ok (.iload_n 1, 1) := by decide +kernel
theorem dX8_path_93 : decode cX8_path 93 = .ok (.invokevirtual 211, 3) := by decide +kernel
theorem dX8_path_96 : decode cX8_path 96 = .ok (.ireturn, 1) := by decide +kernel
theorem dX8_path_97 : decode cX8_path 97 = .ok (.iconst (-1), 1) := by decide +kernel
theorem dX8_path_98 : decode cX8_path 98 = .ok (.ireturn, 1) := by decide +kernel
theorem dX8_opens_0 : decode cX8_opens 0 = .ok (.aload_n 0, 1) := by decide +kernel
theorem dX8_opens_1 : decode cX8_opens 1 = .ok (.getfield 16, 3) := by decide +kernel
theorem dX8_opens_4 : decode cX8_opens 4 = .ok (.iload_n 1, 1) := by decide +kernel
theorem dX8_opens_5 : decode cX8_opens 5 = .ok (.invokevirtual 134, 3) := by decide +kernel
theorem dX8_opens_8 : decode cX8_opens 8 = .ok (.ifCond .ne 5, 3) := by decide +kernel
theorem dX8_opens_11 : decode cX8_opens 11 = .ok (.iconst (-1), 1) := by decide +kernel
theorem dX8_opens_12 : decode cX8_opens 12 = .ok (.ireturn, 1) := by decide +kernel
theorem dX8_opens_13 : decode cX8_opens 13 = .ok (.iload_n 2, 1) := by decide +kernel
theorem dX8_opens_14 : decode cX8_opens 14 = .ok (.ifCond .ne 13, 3) := by decide +kernel
theorem dX8_opens_17 : decode cX8_opens 17 = .ok (.aload_n 0, 1) := by decide +kernel
theorem dX8_opens_18 : decode cX8_opens 18 = .ok (.getfield 16, 3) := by decide +kernel
theorem dX8_opens_21 : decode cX8_opens 21 = .ok (.getfield 137, 3) := by decide +kernel
theorem dX8_opens_24 : decode cX8_opens 24 = .ok (.iload_n 1, 1) := by decide +kernel
theorem dX8_opens_25 : decode cX8_opens 25 = .ok (.iaload, 1) := by decide +kernel
theorem dX8_opens_26 : decode cX8_opens 26 = .ok (.ireturn, 1) := by decide +kernel
theorem dX8_opens_27 : decode cX8_opens 27 = .ok (.iload_n 2, 1) := by decide +kernel
theorem dX8_opens_28 : decode cX8_opens 28 = .ok (.iconst 1, 1) := by decide +kernel
theorem dX8_opens_29 : decode cX8_opens 29 = .ok (.if_icmp .ne 15, 3) := by decide +kernel
theorem dX8_opens_32 : decode cX8_opens 32 = .ok (.aload_n 0, 1) := by decide +kernel
theorem dX8_opens_33 : decode cX8_opens 33 = .ok (.getfield 16, 3) := by decide +kernel
theorem dX8_opens_36 : decode cX8_opens 36 = .ok (.getfield 140, 3) := by decide +kernel
theorem dX8_opens_39 : decode cX8_opens 39 = .ok (.iload_n 1, 1) := by decide +kernel
theorem dX8_opens_40 : decode cX8_opens 40 = .ok (.iaload, 1) := by decide +kernel
theorem dX8_opens_41 : decode cX8_opens 41 = .ok (.goto 4, 3) := by decide +kernel
theorem dX8_opens_44 : decode cX8_opens 44 = .ok (.iconst (-1), 1) := by decide +kernel
theorem dX8_opens_45 : decode cX8_opens 45 = .ok (.ireturn, 1) := by decide +kernel
theorem dX8_leaves_0 : decode cX8_leaves 0 = .ok (.aload_n 0, 1) := by decide +kernel
theorem dX8_leaves_1 : decode cX8_leaves 1 = .ok (.getfield 16, 3) := by decide +kernel
theorem dX8_leaves_4 : decode cX8_leaves 4 = .ok (.iload_n 1, 1) := by decide +kernel
theorem dX8_leaves_5 : decode cX8_leaves 5 = .ok (.invokevirtual 152, 3) := by decide +kernel
theorem dX8_leaves_8 : decode cX8_leaves 8 = .ok (.ifCond .ne 7, 3) := by decide +kernel
theorem dX8_leaves_11 : decode cX8_leaves 11 = .ok (.ldc2_w 214, 3) := by decide +kernel
theorem dX8_leaves_14 : decode cX8_leaves 14 = .ok (.lreturn, 1) := by decide +kernel
theorem dX8_leaves_15 : decode cX8_leaves 15 = .ok (.aload_n 0, 1) := by decide +kernel
theorem dX8_leaves_16 : decode cX8_leaves 16 = .ok (.getfield 41, 3) := by decide +kernel
theorem dX8_leaves_19 : decode cX8_leaves 19 = .ok (.invokevirtual 216, 3) := by decide +kernel
theorem dX8_leaves_22 : decode cX8_leaves 22 = .ok (.ifCond .eq 9, 3) := by decide +kernel
theorem dX8_leaves_25 : decode cX8_leaves 25 = .ok (.ldc2_w 220, 3) := by decide +kernel
theorem dX8_leaves_28 : decode cX8_leaves 28 = .ok (.goto 13, 3) := by decide +kernel
theorem dX8_leaves_31 : decode cX8_leaves 31 = .ok (.aload_n 0, 1) := by decide +kernel
theorem dX8_leaves_32 : decode cX8_leaves 32 = .ok (.getfield 41, 3) := by decide +kernel
theorem dX8_leaves_35 : decode cX8_leaves 35 = .ok (.getfield 222, 3) := by decide +kernel
theorem dX8_leaves_38 : decode cX8_leaves 38 = .ok (.iload_n 1, 1) := by decide +kernel
theorem dX8_leaves_39 : decode cX8_leaves 39 = .ok (.iaload, 1) := by decide +kernel
theorem dX8_leaves_40 : decode cX8_leaves 40 = .ok (.i2l, 1) := by decide +kernel
theorem dX8_leaves_41 : decode cX8_leaves 41 = .ok (.lreturn, 1) := by decide +kernel
theorem dX8_comes_0 : decode cX8_comes 0 = .ok (.aload_n 0, 1) := by decide +kernel
theorem dX8_comes_1 : decode cX8_comes 1 = .ok (.getfield 16, 3) := by decide +kernel
theorem dX8_comes_4 : decode cX8_comes 4 = .ok (.iload_n 1, 1) := by decide +kernel
theorem dX8_comes_5 : decode cX8_comes 5 = .ok (.invokevirtual 152, 3) := by decide +kernel
theorem dX8_comes_8 : decode cX8_comes 8 = .ok (.ifCond .eq 13, 3) := by decide +kernel
theorem dX8_comes_11 : decode cX8_comes 11 = .ok (.aload_n 0, 1) := by decide +kernel
theorem dX8_comes_12 : decode cX8_comes 12 = .ok (.getfield 41, 3) := by decide +kernel
theorem dX8_comes_15 : decode cX8_comes 15 = .ok (.invokevirtual 216, 3) := by decide +kernel
theorem dX8_comes_18 : decode cX8_comes 18 = .ok (.ifCond .eq 7, 3) := by decide +kernel
theorem dX8_comes_21 : decode cX8_comes 21 = .ok (.ldc2_w 225, 3) := by decide +kernel
theorem dX8_comes_24 : decode cX8_comes 24 = .ok (.lreturn, 1) := by decide +kernel
theorem dX8_comes_25 : decode cX8_comes 25 = .ok (.aload_n 0, 1) := by decide +kernel
theorem dX8_comes_26 : decode cX8_comes 26 = .ok (.getfield 41, 3) := by decide +kernel
theorem dX8_comes_29 : decode cX8_comes 29 = .ok (.getfield 227, 3) := by decide +kernel
theorem dX8_comes_32 : decode cX8_comes 32 = .ok (.iload_n 1, 1) := by decide +kernel
theorem dX8_comes_33 : decode cX8_comes 33 = .ok (.iaload, 1) := by decide +kernel
theorem dX8_comes_34 : decode cX8_comes 34 = .ok (.i2l, 1) := by decide +kernel
theorem dX8_comes_35 : decode cX8_comes 35 = .ok (.lreturn, 1) := by decide +kernel
theorem dX8_room_0 : decode cX8_room 0 = .ok (.aload_n 0, 1) := by decide +kernel
theorem dX8_room_1 : decode cX8_room 1 = .ok (.getfield 16, 3) := by decide +kernel
theorem dX8_room_4 : decode cX8_room 4 = .ok (.iload_n 1, 1) := by decide +kernel
theorem dX8_room_5 : decode cX8_room 5 = .ok (.invokevirtual 152, 3) := by decide +kernel
theorem dX8_room_8 : decode cX8_room 8 = .ok (.ifCond .eq 13, 3) := by decide +kernel
theorem dX8_room_11 : decode cX8_room 11 = .ok (.aload_n 0, 1) := by decide +kernel
theorem dX8_room_12 : decode cX8_room 12 = .ok (.getfield 41, 3) := by decide +kernel
theorem dX8_room_15 : decode cX8_room 15 = .ok (.invokevirtual 216, 3) := by decide +kernel
theorem dX8_room_18 : decode cX8_room 18 = .ok (.ifCond .eq 7, 3) := by decide +kernel
theorem dX8_room_21 : decode cX8_room 21 = .ok (.ldc2_w 225, 3) := by decide +kernel
theorem dX8_room_24 : decode cX8_room 24 = .ok (.lreturn, 1) := by decide +kernel
theorem dX8_room_25 : decode cX8_room 25 = .ok (.aload_n 0, 1) := by decide +kernel
theorem dX8_room_26 : decode cX8_room 26 = .ok (.getfield 41, 3) := by decide +kernel
theorem dX8_room_29 : decode cX8_room 29 = .ok (.iload_n 1, 1) := by decide +kernel
theorem dX8_room_30 : decode cX8_room 30 = .ok (.invokevirtual 230, 3) := by decide +kernel
theorem dX8_room_33 : decode cX8_room 33 = .ok (.i2l, 1) := by decide +kernel
theorem dX8_room_34 : decode cX8_room 34 = .ok (.lreturn, 1) := by decide +kernel
theorem dX8_from_0 : decode cX8_from 0 = .ok (.aload_n 0, 1) := by decide +kernel
theorem dX8_from_1 : decode cX8_from 1 = .ok (.getfield 16, 3) := by decide +kernel
theorem dX8_from_4 : decode cX8_from 4 = .ok (.iload_n 1, 1) := by decide +kernel
theorem dX8_from_5 : decode cX8_from 5 = .ok (.invokevirtual 152, 3) := by decide +kernel
theorem dX8_from_8 : decode cX8_from 8 = .ok (.ifCond .ne 5, 3) := by decide +kernel
theorem dX8_from_11 : decode cX8_from 11 = .ok (.iconst (-1), 1) := by decide +kernel
theorem dX8_from_12 : decode cX8_from 12 = .ok (.ireturn, 1) := by decide +kernel
theorem dX8_from_13 : decode cX8_from 13 = .ok (.aload_n 0, 1) := by decide +kernel
theorem dX8_from_14 : decode cX8_from 14 = .ok (.getfield 41, 3) := by decide +kernel
theorem dX8_from_17 : decode cX8_from 17 = .ok (.invokevirtual 216, 3) := by decide +kernel
theorem dX8_from_20 : decode cX8_from 20 = .ok (.ifCond .eq 7, 3) := by decide +kernel
theorem dX8_from_23 : decode cX8_from 23 = .ok (.iconst (-1), 1) := by decide +kernel
theorem dX8_from_24 : decode cX8_from 24 = .ok (.goto 11, 3) := by decide +kernel
theorem dX8_from_27 : decode cX8_from 27 = .ok (.aload_n 0, 1) := by decide +kernel
theorem dX8_from_28 : decode cX8_from 28 = .ok (.getfield 41, 3) := by decide +kernel
theorem dX8_from_31 : decode cX8_from 31 = .ok (.iload_n 1, 1) := by decide +kernel
theorem dX8_from_32 : decode cX8_from 32 = .ok (.invokevirtual 233, 3) := by decide +kernel
theorem dX8_from_35 : decode cX8_from 35 = .ok (.istore_n 2, 1) := by decide +kernel
theorem dX8_from_36 : decode cX8_from 36 = .ok (.iload_n 2, 1) := by decide +kernel
theorem dX8_from_37 : decode cX8_from 37 = .ok (.iconst (-1), 1) := by decide +kernel
theorem dX8_from_38 : decode cX8_from 38 = .ok (.if_icmp .ne 8, 3) := by decide +kernel
theorem dX8_from_41 : decode cX8_from 41 = .ok (.bipush (-2), 2) := by decide +kernel
theorem dX8_from_43 : decode cX8_from 43 = .ok (.goto 4, 3) := by decide +kernel
theorem dX8_from_46 : decode cX8_from 46 = .ok (.iload_n 2, 1) := by decide +kernel
theorem dX8_from_47 : decode cX8_from 47 = .ok (.ireturn, 1) := by decide +kernel
theorem dX8_chain_0 : decode cX8_chain 0 = .ok (.aload_n 0, 1) := by decide +kernel
theorem dX8_chain_1 : decode cX8_chain 1 = .ok (.getfield 16, 3) := by decide +kernel
theorem dX8_chain_4 : decode cX8_chain 4 = .ok (.iload_n 1, 1) := by decide +kernel
theorem dX8_chain_5 : decode cX8_chain 5 = .ok (.invokevirtual 152, 3) := by decide +kernel
theorem dX8_chain_8 : decode cX8_chain 8 = .ok (.ifCond .eq 7, 3) := by decide +kernel
theorem dX8_chain_11 : decode cX8_chain 11 = .ok (.iload_n 2, 1) := by decide +kernel
theorem dX8_chain_12 : decode cX8_chain 12 = .ok (.ifCond .ge 5, 3) := by decide +kernel
theorem dX8_chain_15 : decode cX8_chain 15 = .ok (.iconst (-1), 1) := by decide +kernel
theorem dX8_chain_16 : decode cX8_chain 16 = .ok (.ireturn, 1) := by decide +kernel
theorem dX8_chain_17 : decode cX8_chain 17 = .ok (.aload_n 0, 1) := by decide +kernel
theorem dX8_chain_18 : decode cX8_chain 18 = .ok (.getfield 41, 3) := by decide +kernel
theorem dX8_chain_21 : decode cX8_chain 21 = .ok (.invokevirtual 216, 3) := by decide +kernel
theorem dX8_chain_24 : decode cX8_chain 24 = .ok (.ifCond .eq 8, 3) := by decide +kernel
theorem dX8_chain_27 : decode cX8_chain 27 = .ok (.bipush (-2), 2) := by decide +kernel
theorem dX8_chain_29 : decode cX8_chain 29 = .ok (.goto 12, 3) := by decide +kernel
theorem dX8_chain_32 : decode cX8_chain 32 = .ok (.aload_n 0, 1) := by decide +kernel
theorem dX8_chain_33 : decode cX8_chain 33 = .ok (.getfield 41, 3) := by decide +kernel
theorem dX8_chain_36 : decode cX8_chain 36 = .ok (.iload_n 1, 1) := by decide +kernel
theorem dX8_chain_37 : decode cX8_chain 37 = .ok (.iload_n 2, 1) := by decide +kernel
theorem dX8_chain_38 : decode cX8_chain 38 = .ok (.invokevirtual 236, 3) := by decide +kernel
theorem dX8_chain_41 : decode cX8_chain 41 = .ok (.ireturn, 1) := by decide +kernel
theorem dX8_which_0 : decode cX8_which 0 = .ok (.iload_n 1, 1) := by decide +kernel
theorem dX8_which_1 : decode cX8_which 1 = .ok (.ifCond .lt 8, 3) := by decide +kernel
theorem dX8_which_4 : decode cX8_which 4 = .ok (.iload_n 1, 1) := by decide +kernel
theorem dX8_which_5 : decode cX8_which 5 = .ok (.iconst 1, 1) := by decide +kernel
theorem dX8_which_6 : decode cX8_which 6 = .ok (.if_icmp .le 5, 3) := by decide +kernel
theorem dX8_which_9 : decode cX8_which 9 = .ok (.iconst (-1), 1) := by decide +kernel
theorem dX8_which_10 : decode cX8_which 10 = .ok (.ireturn, 1) := by decide +kernel
theorem dX8_which_11 : decode cX8_which 11 = .ok (.aload_n 0, 1) := by decide +kernel
theorem dX8_which_12 : decode cX8_which 12 = .ok (.getfield 41, 3) := by decide +kernel
theorem dX8_which_15 : decode cX8_which 15 = .ok (.invokevirtual 216, 3) := by decide +kernel
theorem dX8_which_18 : decode cX8_which 18 = .ok (.ifCond .eq 6, 3) := by decide +kernel
theorem dX8_which_21 : decode cX8_which 21 = .ok (.bipush (-2), 2) := by decide +kernel
theorem dX8_which_23 : decode cX8_which 23 = .ok (.ireturn, 1) := by decide +kernel
theorem dX8_which_24 : decode cX8_which 24 = .ok (.iload_n 1, 1) := by decide +kernel
theorem dX8_which_25 : decode cX8_which 25 = .ok (.ifCond .ne 13, 3) := by decide +kernel
theorem dX8_which_28 : decode cX8_which 28 = .ok (.aload_n 0, 1) := by decide +kernel
theorem dX8_which_29 : decode cX8_which 29 = .ok (.getfield 41, 3) := by decide +kernel
theorem dX8_which_32 : decode cX8_which 32 = .ok (.invokevirtual 240, 3) := by decide +kernel
theorem dX8_which_35 : decode cX8_which 35 = .ok (.goto 10, 3) := by decide +kernel
theorem dX8_which_38 : decode cX8_which 38 = .ok (.aload_n 0, 1) := by decide +kernel
theorem dX8_which_39 : decode cX8_which 39 = .ok (.getfield 41, 3) := by decide +kernel
theorem dX8_which_42 : decode cX8_which 42 = .ok (.invokevirtual 244, 3) := by decide +kernel
theorem dX8_which_45 : decode cX8_which 45 = .ok (.ireturn, 1) := by decide +kernel
theorem dX8_good_0 : decode cX8_good 0 = .ok (.aload_n 0, 1) := by decide +kernel
theorem dX8_good_1 : decode cX8_good 1 = .ok (.getfield 41, 3) := by decide +kernel
theorem dX8_good_4 : decode cX8_good 4 = .ok (.invokevirtual 216, 3) := by decide +kernel
theorem dX8_good_7 : decode cX8_good 7 = .ok (.ifCond .eq 5, 3) := by decide +kernel
theorem dX8_good_10 : decode cX8_good 10 = .ok (.iconst 0, 1) := by decide +kernel
theorem dX8_good_11 : decode cX8_good 11 = .ok (.ireturn, 1) := by decide +kernel
theorem dX8_good_12 : decode cX8_good 12 = .ok (.aload_n 0, 1) := by decide +kernel
theorem dX8_good_13 : decode cX8_good 13 = .ok (.getfield 41, 3) := by decide +kernel
theorem dX8_good_16 : decode cX8_good 16 = .ok (.invokevirtual 244, 3) := by decide +kernel
theorem dX8_good_19 : decode cX8_good 19 = .ok (.ifCond .ne 7, 3) := by decide +kernel
theorem dX8_good_22 : decode cX8_good 22 = .ok (.iconst 2, 1) := by decide +kernel
theorem dX8_good_23 : decode cX8_good 23 = .ok (.goto 4, 3) := by decide +kernel
theorem dX8_good_26 : decode cX8_good 26 = .ok (.iconst 1, 1) := by decide +kernel
theorem dX8_good_27 : decode cX8_good 27 = .ok (.ireturn, 1) := by decide +kernel
theorem dX8_gap_0 : decode cX8_gap 0 = .ok (.aload_n 0, 1) := by decide +kernel
theorem dX8_gap_1 : decode cX8_gap 1 = .ok (.getfield 16, 3) := by decide +kernel
theorem dX8_gap_4 : decode cX8_gap 4 = .ok (.iload_n 1, 1) := by decide +kernel
theorem dX8_gap_5 : decode cX8_gap 5 = .ok (.invokevirtual 143, 3) := by decide +kernel
theorem dX8_gap_8 : decode cX8_gap 8 = .ok (.ifCond .eq 15, 3) := by decide +kernel
theorem dX8_gap_11 : decode cX8_gap 11 = .ok (.aload_n 0, 1) := by decide +kernel
theorem dX8_gap_12 : decode cX8_gap 12 = .ok (.getfield 16, 3) := by decide +kernel
theorem dX8_gap_15 : decode cX8_gap 15 = .ok (.iload_n 1, 1) := by decide +kernel
theorem dX8_gap_16 : decode cX8_gap 16 = .ok (.invokevirtual 247, 3) := by decide +kernel
theorem dX8_gap_19 : decode cX8_gap 19 = .ok (.i2l, 1) := by decide +kernel
theorem dX8_gap_20 : decode cX8_gap 20 = .ok (.goto 6, 3) := by decide +kernel
theorem dX8_gap_23 : decode cX8_gap 23 = .ok (.ldc2_w 225, 3) := by decide +kernel
theorem dX8_gap_26 : decode cX8_gap 26 = .ok (.lreturn, 1) := by decide +kernel
theorem dX8_pad_0 : decode cX8_pad 0 = .ok (.aload_n 0, 1) := by decide +kernel
theorem dX8_pad_1 : decode cX8_pad 1 = .ok (.getfield 16, 3) := by decide +kernel
theorem dX8_pad_4 : decode cX8_pad 4 = .ok (.iload_n 1, 1) := by decide +kernel
theorem dX8_pad_5 : decode cX8_pad 5 = .ok (.invokevirtual 143, 3) := by decide +kernel
theorem dX8_pad_8 : decode cX8_pad 8 = .ok (.ifCond .eq 14, 3) := by decide +kernel
theorem dX8_pad_11 : decode cX8_pad 11 = .ok (.aload_n 0, 1) := by decide +kernel
theorem dX8_pad_12 : decode cX8_pad 12 = .ok (.getfield 16, 3) := by decide +kernel
theorem dX8_pad_15 : decode cX8_pad 15 = .ok (.iload_n 1, 1) := by decide +kernel
theorem dX8_pad_16 : decode cX8_pad 16 = .ok (.invokevirtual 250, 3) := by decide +kernel
theorem dX8_pad_19 : decode cX8_pad 19 = .ok (.goto 4, 3) := by decide +kernel
theorem dX8_pad_22 : decode cX8_pad 22 = .ok (.iconst (-1), 1) := by decide +kernel
theorem dX8_pad_23 : decode cX8_pad 23 = .ok (.ireturn, 1) := by decide +kernel
theorem dX8_pads_0 : decode cX8_pads 0 = .ok (.iconst 0, 1) := by decide +kernel
theorem dX8_pads_1 : decode cX8_pads 1 = .ok (.istore_n 1, 1) := by decide +kernel
theorem dX8_pads_2 : decode cX8_pads 2 = .ok (.iconst 0, 1) := by decide +kernel
theorem dX8_pads_3 : decode cX8_pads 3 = .ok (.istore_n 2, 1) := by decide +kernel
theorem dX8_pads_4 : decode cX8_pads 4 = .ok (.iload_n 2, 1) := by decide +kernel
theorem dX8_pads_5 : decode cX8_pads 5 = .ok (.aload_n 0, 1) := by decide +kernel
theorem dX8_pads_6 : decode cX8_pads 6 = .ok (.getfield 16, 3) := by decide +kernel
theorem dX8_pads_9 : decode cX8_pads 9 = .ok (.getfield 197, 3) := by decide +kernel
theorem dX8_pads_12 : decode cX8_pads 12 = .ok (.if_icmp .ge 20, 3) := by decide +kernel
theorem dX8_pads_15 : decode cX8_pads 15 = .ok (.iload_n 1, 1) := by decide +kernel
theorem dX8_pads_16 : decode cX8_pads 16 = .ok (.aload_n 0, 1) := by decide +kernel
theorem dX8_pads_17 : decode cX8_pads 17 = .ok (.getfield 16, 3) := by decide +kernel
theorem dX8_pads_20 : decode cX8_pads 20 = .ok (.iload_n 2, 1) := by decide +kernel
theorem dX8_pads_21 : decode cX8_pads 21 = .ok (.invokevirtual 250, 3) := by decide +kernel
theorem dX8_pads_24 : decode cX8_pads 24 = .ok (.iadd, 1) := by decide +kernel
theorem dX8_pads_25 : decode cX8_pads 25 = .ok (.istore_n 1, 1) := by decide +kernel
theorem dX8_pads_26 : decode cX8_pads 26 = .ok (.iinc 2 1, 3) := by decide +kernel
theorem dX8_pads_29 : decode cX8_pads 29 = .ok (.goto (-25), 3) := by decide +kernel
theorem dX8_pads_32 : decode cX8_pads 32 = .ok (.iload_n 1, 1) := by decide +kernel
theorem dX8_pads_33 : decode cX8_pads 33 = .ok (.ireturn, 1) := by decide +kernel
theorem dX8_wave_0 : decode cX8_wave 0 = .ok (.aload_n 0, 1) := by decide +kernel
theorem dX8_wave_1 : decode cX8_wave 1 = .ok (.getfield 16, 3) := by decide +kernel
theorem dX8_wave_4 : decode cX8_wave 4 = .ok (.iload_n 1, 1) := by decide +kernel
theorem dX8_wave_5 : decode cX8_wave 5 = .ok (.invokevirtual 152, 3) := by decide +kernel
theorem dX8_wave_8 : decode cX8_wave 8 = .ok (.ifCond .eq 14, 3) := by decide +kernel
theorem dX8_wave_11 : decode cX8_wave 11 = .ok (.iload_n 2, 1) := by decide +kernel
theorem dX8_wave_12 : decode cX8_wave 12 = .ok (.ifCond .lt 10, 3) := by decide +kernel
theorem dX8_wave_15 : decode cX8_wave 15 = .ok (.iload_n 2, 1) := by decide +kernel
theorem dX8_wave_16 : decode cX8_wave 16 = .ok (.sipush 200, 3) := by decide +kernel
theorem dX8_wave_19 : decode cX8_wave 19 = .ok (.if_icmp .le 7, 3) := by decide +kernel
theorem dX8_wave_22 : decode cX8_wave 22 = .ok (.ldc2_w 225, 3) := by decide +kernel
theorem dX8_wave_25 : decode cX8_wave 25 = .ok (.lreturn, 1) := by decide +kernel
theorem dX8_wave_26 : decode cX8_wave 26 = .ok (.aload_n 0, 1) := by decide +kernel
theorem dX8_wave_27 : decode cX8_wave 27 = .ok (.getfield 48, 3) := by decide +kernel
theorem dX8_wave_30 : decode cX8_wave 30 = .ok (.iload_n 1, 1) := by decide +kernel
theorem dX8_wave_31 : decode cX8_wave 31 = .ok (.iload_n 2, 1) := by decide +kernel
theorem dX8_wave_32 : decode cX8_wave 32 = .ok (.invokevirtual 253, 3) := by decide +kernel
theorem dX8_wave_35 : decode cX8_wave 35 = .ok (.i2l, 1) := by decide +kernel
theorem dX8_wave_36 : decode cX8_wave 36 = .ok (.lreturn, 1) := by decide +kernel
theorem dX8_fails_0 : decode cX8_fails 0 = .ok (.aload_n 0, 1) := by decide +kernel
theorem dX8_fails_1 : decode cX8_fails 1 = .ok (.getfield 16, 3) := by decide +kernel
theorem dX8_fails_4 : decode cX8_fails 4 = .ok (.iload_n 1, 1) := by decide +kernel
theorem dX8_fails_5 : decode cX8_fails 5 = .ok (.invokevirtual 152, 3) := by decide +kernel
theorem dX8_fails_8 : decode cX8_fails 8 = .ok (.ifCond .eq 14, 3) := by decide +kernel
theorem dX8_fails_11 : decode cX8_fails 11 = .ok (.aload_n 0, 1) := by decide +kernel
theorem dX8_fails_12 : decode cX8_fails 12 = .ok (.getfield 48, 3) := by decide +kernel
theorem dX8_fails_15 : decode cX8_fails 15 = .ok (.iload_n 1, 1) := by decide +kernel
theorem dX8_fails_16 : decode cX8_fails 16 = .ok (.invokevirtual 256, 3) := by decide +kernel
theorem dX8_fails_19 : decode cX8_fails 19 = .ok (.goto 4, 3) := by decide +kernel
theorem dX8_fails_22 : decode cX8_fails 22 = .ok (.iconst (-1), 1) := by decide +kernel
theorem dX8_fails_23 : decode cX8_fails 23 = .ok (.ireturn, 1) := by decide +kernel
theorem dX8_ratio_0 : decode cX8_ratio 0 = .ok (.aload_n 0, 1) := by decide +kernel
theorem dX8_ratio_1 : decode cX8_ratio 1 = .ok (.getfield 55, 3) := by decide +kernel
theorem dX8_ratio_4 : decode cX8_ratio 4 = .ok (.invokevirtual 259, 3) := by decide +kernel
theorem dX8_ratio_7 : decode cX8_ratio 7 = .ok (.iload_n 1, 1) := by decide +kernel
theorem dX8_ratio_8 : decode cX8_ratio 8 = .ok (.ifCond .eq 13, 3) := by decide +kernel
theorem dX8_ratio_11 : decode cX8_ratio 11 = .ok (.aload_n 0, 1) := by decide +kernel
theorem dX8_ratio_12 : decode cX8_ratio 12 = .ok (.getfield 55, 3) := by decide +kernel
theorem dX8_ratio_15 : decode cX8_ratio 15 = .ok (.getfield 262, 3) := by decide +kernel
theorem dX8_ratio_18 : decode cX8_ratio 18 = .ok (.goto 10, 3) := by decide +kernel
theorem dX8_ratio_21 : decode cX8_ratio 21 = .ok (.aload_n 0, 1) := by decide +kernel
theorem dX8_ratio_22 : decode cX8_ratio 22 = .ok (.getfield 55, 3) := by decide +kernel
theorem dX8_ratio_25 : decode cX8_ratio 25 = .ok (.getfield 266, 3) := by decide +kernel
theorem dX8_ratio_28 : decode cX8_ratio 28 = .ok (.lreturn, 1) := by decide +kernel
theorem dX8_loop_0 : decode cX8_loop 0 = .ok (.iload_n 1, 1) := by decide +kernel
theorem dX8_loop_1 : decode cX8_loop 1 = .ok (.ifCond .ge 5, 3) := by decide +kernel
theorem dX8_loop_4 : decode cX8_loop 4 = .ok (.iconst (-1), 1) := by decide +kernel
theorem dX8_loop_5 : decode cX8_loop 5 = .ok (.ireturn, 1) := by decide +kernel
theorem dX8_loop_6 : decode cX8_loop 6 = .ok (.aload_n 0, 1) := by decide +kernel
theorem dX8_loop_7 : decode cX8_loop 7 = .ok (.getfield 55, 3) := by decide +kernel
theorem dX8_loop_10 : decode cX8_loop 10 = .ok (.invokevirtual 259, 3) := by decide +kernel
theorem dX8_loop_13 : decode cX8_loop 13 = .ok (.iload_n 1, 1) := by decide +kernel
theorem dX8_loop_14 : decode cX8_loop 14 = .ok (.aload_n 0, 1) := by decide +kernel
theorem dX8_loop_15 : decode cX8_loop 15 = .ok (.getfield 55, 3) := by decide +kernel
theorem dX8_loop_18 : decode cX8_loop 18 = .ok (.getfield 269, 3) := by decide +kernel
theorem dX8_loop_21 : decode cX8_loop 21 = .ok (.if_icmp .ge 15, 3) := by decide +kernel
theorem dX8_loop_24 : decode cX8_loop 24 = .ok (.aload_n 0, 1) := by decide +kernel
theorem dX8_loop_25 : decode cX8_loop 25 = .ok (.getfield 55, 3) := by decide +kernel
theorem dX8_loop_28 : decode cX8_loop 28 = .ok (.getfield 272, 3) := by decide +kernel
theorem dX8_loop_31 : decode cX8_loop 31 = .ok (.iload_n 1, 1) := by decide +kernel
theorem dX8_loop_32 : decode cX8_loop 32 = .ok (.iaload, 1) := by decide +kernel
theorem dX8_loop_33 : decode cX8_loop 33 = .ok (.goto 5, 3) := by decide +kernel
theorem dX8_loop_36 : decode cX8_loop 36 = .ok (.bipush (-2), 2) := by decide +kernel
theorem dX8_loop_38 : decode cX8_loop 38 = .ok (.ireturn, 1) := by decide +kernel
theorem dX8_leastPeriod_0 : decode cX8_leastPeriod 0 = .ok (.aload_n 0, 1) := by decide +kernel
theorem dX8_leastPeriod_1 : decode cX8_leastPeriod 1 = .ok (.getfield 64, 3) := by decide +kernel
theorem dX8_leastPeriod_4 : decode cX8_leastPeriod 4 = .ok (.invokevirtual 275, 3) := by decide +kernel
theorem dX8_leastPeriod_7 : decode cX8_leastPeriod 7 = .ok (.istore_n 1, 1) := by decide +kernel
theorem dX8_leastPeriod_8 : decode cX8_leastPeriod 8 = .ok (.iload_n 1, 1) := by decide +kernel
theorem dX8_leastPeriod_9 : decode cX8_leastPeriod 9 = .ok (.iconst (-1), 1) := by decide +kernel
theorem dX8_leastPeriod_10 : decode cX8_leastPeriod 10 = .ok (.if_icmp .ne 8, 3) := by decide +kernel
theorem dX8_leastPeriod_13 : decode cX8_leastPeriod 13 = .ok (.bipush (-2), 2) := by decide +kernel
theorem dX8_leastPeriod_15 : decode cX8_leastPeriod 15 = .ok (.goto 4, 3) := by decide +kernel
theorem dX8_leastPeriod_18 : decode cX8_leastPeriod 18 = .ok (.iload_n 1, 1) := by decide +kernel
theorem dX8_leastPeriod_19 : decode cX8_leastPeriod 19 = .ok (.ireturn, 1) := by decide +kernel
theorem dX8_slower_0 : decode cX8_slower 0 = .ok (.aload_n 0, 1) := by decide +kernel
theorem dX8_slower_1 : decode cX8_slower 1 = .ok (.getfield 16, 3) := by decide +kernel
theorem dX8_slower_4 : decode cX8_slower 4 = .ok (.iload_n 1, 1) := by decide +kernel
theorem dX8_slower_5 : decode cX8_slower 5 = .ok (.invokevirtual 143, 3) := by decide +kernel
theorem dX8_slower_8 : decode cX8_slower 8 = .ok (.ifCond .eq 14, 3) := by decide +kernel
theorem dX8_slower_11 : decode cX8_slower 11 = .ok (.aload_n 0, 1) := by decide +kernel
theorem dX8_slower_12 : decode cX8_slower 12 = .ok (.getfield 64, 3) := by decide +kernel
theorem dX8_slower_15 : decode cX8_slower 15 = .ok (.iload_n 1, 1) := by decide +kernel
theorem dX8_slower_16 : decode cX8_slower 16 = .ok (.invokevirtual 278, 3) := by decide +kernel
theorem dX8_slower_19 : decode cX8_slower 19 = .ok (.goto 4, 3) := by decide +kernel
theorem dX8_slower_22 : decode cX8_slower 22 = .ok (.iconst (-1), 1) := by decide +kernel
theorem dX8_slower_23 : decode cX8_slower 23 = .ok (.ireturn, 1) := by decide +kernel
theorem dX8_bestOpens_0 : decode cX8_bestOpens 0 = .ok (.aload_n 0, 1) := by decide +kernel
theorem dX8_bestOpens_1 : decode cX8_bestOpens 1 = .ok (.getfield 16, 3) := by decide +kernel
theorem dX8_bestOpens_4 : decode cX8_bestOpens 4 = .ok (.iload_n 1, 1) := by decide +kernel
theorem dX8_bestOpens_5 : decode cX8_bestOpens 5 = .ok (.invokevirtual 134, 3) := by decide +kernel
theorem dX8_bestOpens_8 : decode cX8_bestOpens 8 = .ok (.ifCond .eq 15, 3) := by decide +kernel
theorem dX8_bestOpens_11 : decode cX8_bestOpens 11 = .ok (.aload_n 0, 1) := by decide +kernel
theorem dX8_bestOpens_12 : decode cX8_bestOpens 12 = .ok (.getfield 64, 3) := by decide +kernel
theorem dX8_bestOpens_15 : decode cX8_bestOpens 15 = .ok (.iload_n 1, 1) := by decide +kernel
theorem dX8_bestOpens_16 : decode cX8_bestOpens 16 = .ok (.iconst (-1), 1) := by decide +kernel
theorem dX8_bestOpens_17 : decode cX8_bestOpens 17 = .ok (.invokevirtual 281, 3) := by decide +kernel
theorem dX8_bestOpens_20 : decode cX8_bestOpens 20 = .ok (.goto 4, 3) := by decide +kernel
theorem dX8_bestOpens_23 : decode cX8_bestOpens 23 = .ok (.iconst (-1), 1) := by decide +kernel
theorem dX8_bestOpens_24 : decode cX8_bestOpens 24 = .ok (.ireturn, 1) := by decide +kernel
theorem dX8_bestTwo_0 : decode cX8_bestTwo 0 = .ok (.aload_n 0, 1) := by decide +kernel
theorem dX8_bestTwo_1 : decode cX8_bestTwo 1 = .ok (.getfield 16, 3) := by decide +kernel
theorem dX8_bestTwo_4 : decode cX8_bestTwo 4 = .ok (.iload_n 1, 1) := by decide +kernel
theorem dX8_bestTwo_5 : decode cX8_bestTwo 5 = .ok (.invokevirtual 134, 3) := by decide +kernel
theorem dX8_bestTwo_8 : decode cX8_bestTwo 8 = .ok (.ifCond .eq 19, 3) := by decide +kernel
theorem dX8_bestTwo_11 : decode cX8_bestTwo 11 = .ok (.aload_n 0, 1) := by decide +kernel
theorem dX8_bestTwo_12 : decode cX8_bestTwo 12 = .ok (.getfield 16, 3) := by decide +kernel
theorem dX8_bestTwo_15 : decode cX8_bestTwo 15 = .ok (.iload_n 2, 1) := by decide +kernel
theorem dX8_bestTwo_16 : decode cX8_bestTwo 16 = .ok (.invokevirtual 134, 3) := by decide +kernel
theorem dX8_bestTwo_19 : decode cX8_bestTwo 19 = .ok (.ifCond .eq 8, 3) := by decide +kernel
theorem dX8_bestTwo_22 : decode cX8_bestTwo 22 = .ok (.iload_n 1, 1) := by decide +kernel
theorem dX8_bestTwo_23 : decode cX8_bestTwo 23 = .ok (.iload_n 2, 1) := by decide +kernel
theorem dX8_bestTwo_24 : decode cX8_bestTwo 24 = .ok (.if_icmp .ne 5, 3) := by decide +kernel
theorem dX8_bestTwo_27 : decode cX8_bestTwo 27 = .ok (.iconst (-1), 1) := by decide +kernel
theorem dX8_bestTwo_28 : decode cX8_bestTwo 28 = .ok (.ireturn, 1) := by decide +kernel
theorem dX8_bestTwo_29 : decode cX8_bestTwo 29 = .ok (.aload_n 0, 1) := by decide +kernel
theorem dX8_bestTwo_30 : decode cX8_bestTwo 30 = .ok (.getfield 64, 3) := by decide +kernel
theorem dX8_bestTwo_33 : decode cX8_bestTwo 33 = .ok (.iload_n 1, 1) := by decide +kernel
theorem dX8_bestTwo_34 : decode cX8_bestTwo 34 = .ok (.iload_n 2, 1) := by decide +kernel
theorem dX8_bestTwo_35 : decode cX8_bestTwo 35 = .ok (.invokevirtual 281, 3) := by decide +kernel
theorem dX8_bestTwo_38 : decode cX8_bestTwo 38 = .ok (.ireturn, 1) := by decide +kernel
theorem dX8_gain_0 : decode cX8_gain 0 = .ok (.aload_n 0, 1) := by decide +kernel
theorem dX8_gain_1 : decode cX8_gain 1 = .ok (.getfield 16, 3) := by decide +kernel
theorem dX8_gain_4 : decode cX8_gain 4 = .ok (.iload_n 1, 1) := by decide +kernel
theorem dX8_gain_5 : decode cX8_gain 5 = .ok (.invokevirtual 143, 3) := by decide +kernel
theorem dX8_gain_8 : decode cX8_gain 8 = .ok (.ifCond .eq 14, 3) := by decide +kernel
theorem dX8_gain_11 : decode cX8_gain 11 = .ok (.aload_n 0, 1) := by decide +kernel
theorem dX8_gain_12 : decode cX8_gain 12 = .ok (.getfield 64, 3) := by decide +kernel
theorem dX8_gain_15 : decode cX8_gain 15 = .ok (.iload_n 1, 1) := by decide +kernel
theorem dX8_gain_16 : decode cX8_gain 16 = .ok (.invokevirtual 284, 3) := by decide +kernel
theorem dX8_gain_19 : decode cX8_gain 19 = .ok (.goto 4, 3) := by decide +kernel
theorem dX8_gain_22 : decode cX8_gain 22 = .ok (.iconst (-1), 1) := by decide +kernel
theorem dX8_gain_23 : decode cX8_gain 23 = .ok (.ireturn, 1) := by decide +kernel
theorem dX8_breaks_0 : decode cX8_breaks 0 = .ok (.aload_n 0, 1) := by decide +kernel
theorem dX8_breaks_1 : decode cX8_breaks 1 = .ok (.getfield 55, 3) := by decide +kernel
theorem dX8_breaks_4 : decode cX8_breaks 4 = .ok (.invokevirtual 287, 3) := by decide +kernel
theorem dX8_breaks_7 : decode cX8_breaks 7 = .ok (.ireturn, 1) := by decide +kernel
theorem dX8_bestMove_0 : decode cX8_bestMove 0 = .ok (.aload_n 0, 1) := by decide +kernel
theorem dX8_bestMove_1 : decode cX8_bestMove 1 = .ok (.getfield 16, 3) := by decide +kernel
theorem dX8_bestMove_4 : decode cX8_bestMove 4 = .ok (.iload_n 1, 1) := by decide +kernel
theorem dX8_bestMove_5 : decode cX8_bestMove 5 = .ok (.invokevirtual 152, 3) := by decide +kernel
theorem dX8_bestMove_8 : decode cX8_bestMove 8 = .ok (.ifCond .eq 14, 3) := by decide +kernel
theorem dX8_bestMove_11 : decode cX8_bestMove 11 = .ok (.aload_n 0, 1) := by decide +kernel
theorem dX8_bestMove_12 : decode cX8_bestMove 12 = .ok (.getfield 64, 3) := by decide +kernel
theorem dX8_bestMove_15 : decode cX8_bestMove 15 = .ok (.iload_n 1, 1) := by decide +kernel
theorem dX8_bestMove_16 : decode cX8_bestMove 16 = .ok (.invokevirtual 290, 3) := by decide +kernel
theorem dX8_bestMove_19 : decode cX8_bestMove 19 = .ok (.goto 6, 3) := by decide +kernel
theorem dX8_bestMove_22 : decode cX8_bestMove 22 = .ok (.sipush (-3000), 3) := by decide +kernel
theorem dX8_bestMove_25 : decode cX8_bestMove 25 = .ok (.ireturn, 1) := by decide +kernel
theorem dX8_leastWidth_0 : decode cX8_leastWidth 0 = .ok (.aload_n 0, 1) := by decide +kernel
theorem dX8_leastWidth_1 : decode cX8_leastWidth 1 = .ok (.getfield 16, 3) := by decide +kernel
theorem dX8_leastWidth_4 : decode cX8_leastWidth 4 = .ok (.iload_n 1, 1) := by decide +kernel
theorem dX8_leastWidth_5 : decode cX8_leastWidth 5 = .ok (.invokevirtual 134, 3) := by decide +kernel
theorem dX8_leastWidth_8 : decode cX8_leastWidth 8 = .ok (.ifCond .ne 5, 3) := by decide +kernel
theorem dX8_leastWidth_11 : decode cX8_leastWidth 11 = .ok (.iconst (-1), 1) := by decide +kernel
theorem dX8_leastWidth_12 : decode cX8_leastWidth 12 = .ok (.ireturn, 1) := by decide +kernel
theorem dX8_leastWidth_13 : decode cX8_leastWidth 13 = .ok (.aload_n 0, 1) := by decide +kernel
theorem dX8_leastWidth_14 : decode cX8_leastWidth 14 = .ok (.getfield 41, 3) := by decide +kernel
theorem dX8_leastWidth_17 : decode cX8_leastWidth 17 = .ok (.invokevirtual 216, 3) := by decide +kernel
theorem dX8_leastWidth_20 : decode cX8_leastWidth 20 = .ok (.ifCond .eq 8, 3) := by decide +kernel
theorem dX8_leastWidth_23 : decode cX8_leastWidth 23 = .ok (.bipush (-2), 2) := by decide +kernel
theorem dX8_leastWidth_25 : decode cX8_leastWidth 25 = .ok (.goto 11, 3) := by decide +kernel
theorem dX8_leastWidth_28 : decode cX8_leastWidth 28 = .ok (.aload_n 0, 1) := by decide +kernel
theorem dX8_leastWidth_29 : decode cX8_leastWidth 29 = .ok (.getfield 41, 3) := by decide +kernel
theorem dX8_leastWidth_32 : decode cX8_leastWidth 32 = .ok (.iload_n 1, 1) := by decide +kernel
theorem dX8_leastWidth_33 : decode cX8_leastWidth 33 = .ok (.invokevirtual 293, 3) := by decide +kernel
theorem dX8_leastWidth_36 : decode cX8_leastWidth 36 = .ok (.ireturn, 1) := by decide +kernel
theorem dX8_flops_0 : decode cX8_flops 0 = .ok (.aload_n 0, 1) := by decide +kernel
theorem dX8_flops_1 : decode cX8_flops 1 = .ok (.getfield 41, 3) := by decide +kernel
theorem dX8_flops_4 : decode cX8_flops 4 = .ok (.invokevirtual 216, 3) := by decide +kernel
theorem dX8_flops_7 : decode cX8_flops 7 = .ok (.ifCond .ne 13, 3) := by decide +kernel
theorem dX8_flops_10 : decode cX8_flops 10 = .ok (.aload_n 0, 1) := by decide +kernel
theorem dX8_flops_11 : decode cX8_flops 11 = .ok (.getfield 41, 3) := by decide +kernel
theorem dX8_flops_14 : decode cX8_flops 14 = .ok (.invokevirtual 244, 3) := by decide +kernel
theorem dX8_flops_17 : decode cX8_flops 17 = .ok (.ifCond .eq 6, 3) := by decide +kernel
theorem dX8_flops_20 : decode cX8_flops 20 = .ok (.bipush (-2), 2) := by decide +kernel
theorem dX8_flops_22 : decode cX8_flops 22 = .ok (.ireturn, 1) := by decide +kernel
theorem dX8_flops_23 : decode cX8_flops 23 = .ok (.aload_n 0, 1) := by decide +kernel
theorem dX8_flops_24 : decode cX8_flops 24 = .ok (.getfield 41, 3) := by decide +kernel
theorem dX8_flops_27 : decode cX8_flops 27 = .ok (.invokevirtual 296, 3) := by decide +kernel
theorem dX8_flops_30 : decode cX8_flops 30 = .ok (.ireturn, 1) := by decide +kernel
theorem dX8_near_0 : decode cX8_near 0 = .ok (.aload_n 0, 1) := by decide +kernel
theorem dX8_near_1 : decode cX8_near 1 = .ok (.getfield 16, 3) := by decide +kernel
theorem dX8_near_4 : decode cX8_near 4 = .ok (.iload_n 1, 1) := by decide +kernel
theorem dX8_near_5 : decode cX8_near 5 = .ok (.invokevirtual 143, 3) := by decide +kernel
theorem dX8_near_8 : decode cX8_near 8 = .ok (.ifCond .eq 13, 3) := by decide +kernel
theorem dX8_near_11 : decode cX8_near 11 = .ok (.aload_n 0, 1) := by decide +kernel
theorem dX8_near_12 : decode cX8_near 12 = .ok (.getfield 41, 3) := by decide +kernel
theorem dX8_near_15 : decode cX8_near 15 = .ok (.invokevirtual 216, 3) := by decide +kernel
theorem dX8_near_18 : decode cX8_near 18 = .ok (.ifCond .eq 7, 3) := by decide +kernel
theorem dX8_near_21 : decode cX8_near 21 = .ok (.ldc2_w 225, 3) := by decide +kernel
theorem dX8_near_24 : decode cX8_near 24 = .ok (.lreturn, 1) := by decide +kernel
theorem dX8_near_25 : decode cX8_near 25 = .ok (.aload_n 0, 1) := by decide +kernel
theorem dX8_near_26 : decode cX8_near 26 = .ok (.getfield 41, 3) := by decide +kernel
theorem dX8_near_29 : decode cX8_near 29 = .ok (.iload_n 1, 1) := by decide +kernel
theorem dX8_near_30 : decode cX8_near 30 = .ok (.invokevirtual 299, 3) := by decide +kernel
theorem dX8_near_33 : decode cX8_near 33 = .ok (.i2l, 1) := by decide +kernel
theorem dX8_near_34 : decode cX8_near 34 = .ok (.lreturn, 1) := by decide +kernel
theorem dX8_nearest_0 : decode cX8_nearest 0 = .ok (.iload_n 1, 1) := by decide +kernel
theorem dX8_nearest_1 : decode cX8_nearest 1 = .ok (.ifCond .ge 5, 3) := by decide +kernel
theorem dX8_nearest_4 : decode cX8_nearest 4 = .ok (.iconst (-1), 1) := by decide +kernel
theorem dX8_nearest_5 : decode cX8_nearest 5 = .ok (.ireturn, 1) := by decide +kernel
theorem dX8_nearest_6 : decode cX8_nearest 6 = .ok (.aload_n 0, 1) := by decide +kernel
theorem dX8_nearest_7 : decode cX8_nearest 7 = .ok (.getfield 41, 3) := by decide +kernel
theorem dX8_nearest_10 : decode cX8_nearest 10 = .ok (.invokevirtual 216, 3) := by decide +kernel
theorem dX8_nearest_13 : decode cX8_nearest 13 = .ok (.ifCond .ne 14, 3) := by decide +kernel
theorem dX8_nearest_16 : decode cX8_nearest 16 = .ok (.iload_n 1, 1) := by decide +kernel
theorem dX8_nearest_17 : decode cX8_nearest 17 = .ok (.aload_n 0, 1) := by decide +kernel
theorem dX8_nearest_18 : decode cX8_nearest 18 = .ok (.getfield 16, 3) := by decide +kernel
theorem dX8_nearest_21 : decode cX8_nearest 21 = .ok (.getfield 197, 3) := by decide +kernel
theorem dX8_nearest_24 : decode cX8_nearest 24 = .ok (.if_icmp .lt 6, 3) := by decide +kernel
theorem dX8_nearest_27 : decode cX8_nearest 27 = .ok (.bipush (-2), 2) := by decide +kernel
theorem dX8_nearest_29 : decode cX8_nearest 29 = .ok (.ireturn, 1) := by decide +kernel
theorem dX8_nearest_30 : decode cX8_nearest 30 = .ok (.aload_n 0, 1) := by decide +kernel
theorem dX8_nearest_31 : decode cX8_nearest 31 = .ok (.getfield 41, 3) := by decide +kernel
theorem dX8_nearest_34 : decode cX8_nearest 34 = .ok (.iload_n 1, 1) := by decide +kernel
theorem dX8_nearest_35 : decode cX8_nearest 35 = .ok (.invokevirtual 302, 3) := by decide +kernel
theorem dX8_nearest_38 : decode cX8_nearest 38 = .ok (.ireturn, 1) := by decide +kernel
theorem dX8_event_0 : decode cX8_event 0 = .ok (.aload_n 0, 1) := by decide +kernel
theorem dX8_event_1 : decode cX8_event 1 = .ok (.getfield 16, 3) := by decide +kernel
theorem dX8_event_4 : decode cX8_event 4 = .ok (.iload_n 1, 1) := by decide +kernel
theorem dX8_event_5 : decode cX8_event 5 = .ok (.invokevirtual 305, 3) := by decide +kernel
theorem dX8_event_8 : decode cX8_event 8 = .ok (.istore_n 3, 1) := by decide +kernel
theorem dX8_event_9 : decode cX8_event 9 = .ok (.iload_n 3, 1) := by decide +kernel
theorem dX8_event_10 : decode cX8_event 10 = .ok (.iconst (-1), 1) := by decide +kernel
theorem dX8_event_11 : decode cX8_event 11 = .ok (.if_icmp .ne 5, 3) := by decide +kernel
theorem dX8_event_14 : decode cX8_event 14 = .ok (.iconst (-1), 1) := by decide +kernel
theorem dX8_event_15 : decode cX8_event 15 = .ok (.ireturn, 1) := by decide +kernel
theorem dX8_event_16 : decode cX8_event 16 = .ok (.iload_n 2, 1) := by decide +kernel
theorem dX8_event_17 : decode cX8_event 17 = .ok (.tableswitch 42 0 2 #[27, 32, 36], 27) := by decide +kernel
theorem dX8_event_44 : decode cX8_event 44 = .ok (.iload_n 3, 1) := by decide +kernel
theorem dX8_event_45 : decode cX8_event 45 = .ok (.bipush 8, 2) := by decide +kernel
theorem dX8_event_47 : decode cX8_event 47 = .ok (.idiv, 1) := by decide +kernel
theorem dX8_event_48 : decode cX8_event 48 = .ok (.ireturn, 1) := by decide +kernel
theorem dX8_event_49 : decode cX8_event 49 = .ok (.iload_n 3, 1) := by decide +kernel
theorem dX8_event_50 : decode cX8_event 50 = .ok (.iconst 4, 1) := by decide +kernel
theorem dX8_event_51 : decode cX8_event 51 = .ok (.irem, 1) := by decide +kernel
theorem dX8_event_52 : decode cX8_event 52 = .ok (.ireturn, 1) := by decide +kernel
theorem dX8_event_53 : decode cX8_event 53 = .ok (.iload_n 3, 1) := by decide +kernel
theorem dX8_event_54 : decode cX8_event 54 = .ok (.iconst 4, 1) := by decide +kernel
theorem dX8_event_55 : decode cX8_event 55 = .ok (.idiv, 1) := by decide +kernel
theorem dX8_event_56 : decode cX8_event 56 = .ok (.iconst 2, 1) := by decide +kernel
theorem dX8_event_57 : decode cX8_event 57 = .ok (.irem, 1) := by decide +kernel
theorem dX8_event_58 : decode cX8_event 58 = .ok (.ireturn, 1) := by decide +kernel
theorem dX8_event_59 : decode cX8_event 59 = .ok (.iconst (-1), 1) := by decide +kernel
theorem dX8_event_60 : decode cX8_event 60 = .ok (.ireturn, 1) := by decide +kernel
theorem dX8_open_0 : decode cX8_open 0 = .ok (.iload_n 1, 1) := by decide +kernel
theorem dX8_open_1 : decode cX8_open 1 = .ok (.ifCond .lt 17, 3) := by decide +kernel
theorem dX8_open_4 : decode cX8_open 4 = .ok (.iload_n 1, 1) := by decide +kernel
theorem dX8_open_5 : decode cX8_open 5 = .ok (.bipush 64, 2) := by decide +kernel
theorem dX8_open_7 : decode cX8_open 7 = .ok (.aload_n 0, 1) := by decide +kernel
theorem dX8_open_8 : decode cX8_open 8 = .ok (.getfield 16, 3) := by decide +kernel
theorem dX8_open_11 : decode cX8_open 11 = .ok (.getfield 128, 3) := by decide +kernel
theorem dX8_open_14 : decode cX8_open 14 = .ok (.imul, 1) := by decide +kernel
theorem dX8_open_15 : decode cX8_open 15 = .ok (.if_icmp .lt 7, 3) := by decide +kernel
theorem dX8_open_18 : decode cX8_open 18 = .ok (.iconst (-1), 1) := by decide +kernel
theorem dX8_open_19 : decode cX8_open 19 = .ok (.goto 11, 3) := by decide +kernel
theorem dX8_open_22 : decode cX8_open 22 = .ok (.aload_n 0, 1) := by decide +kernel
theorem dX8_open_23 : decode cX8_open 23 = .ok (.getfield 16, 3) := by decide +kernel
theorem dX8_open_26 : decode cX8_open 26 = .ok (.iload_n 1, 1) := by decide +kernel
theorem dX8_open_27 : decode cX8_open 27 = .ok (.invokevirtual 308, 3) := by decide +kernel
theorem dX8_open_30 : decode cX8_open 30 = .ok (.ireturn, 1) := by decide +kernel
theorem dX8_chance_0 : decode cX8_chance 0 = .ok (.iload_n 1, 1) := by decide +kernel
theorem dX8_chance_1 : decode cX8_chance 1 = .ok (.iconst (-1), 1) := by decide +kernel
theorem dX8_chance_2 : decode cX8_chance 2 = .ok (.if_icmp .lt 23, 3) := by decide +kernel
theorem dX8_chance_5 : decode cX8_chance 5 = .ok (.iload_n 2, 1) := by decide +kernel
theorem dX8_chance_6 : decode cX8_chance 6 = .ok (.iconst 1, 1) := by decide +kernel
theorem dX8_chance_7 : decode cX8_chance 7 = .ok (.if_icmp .lt 18, 3) := by decide +kernel
theorem dX8_chance_10 : decode cX8_chance 10 = .ok (.iload_n 2, 1) := by decide +kernel
theorem dX8_chance_11 : decode cX8_chance 11 = .ok (.bipush 40, 2) := by decide +kernel
theorem dX8_chance_13 : decode cX8_chance 13 = .ok (.if_icmp .gt 12, 3) := by decide +kernel
theorem dX8_chance_16 : decode cX8_chance 16 = .ok (.iload_n 3, 1) := by decide +kernel
theorem dX8_chance_17 : decode cX8_chance 17 = .ok (.ifCond .lt 8, 3) := by decide +kernel
theorem dX8_chance_20 : decode cX8_chance 20 = .ok (.iload_n 3, 1) := by decide +kernel
theorem dX8_chance_21 : decode cX8_chance 21 = .ok (.iconst 2, 1) := by decide +kernel
theorem dX8_chance_22 : decode cX8_chance 22 = .ok (.if_icmp .le 5, 3) := by decide +kernel
theorem dX8_chance_25 : decode cX8_chance 25 = .ok (.iconst (-1), 1) := by decide +kernel
theorem dX8_chance_26 : decode cX8_chance 26 = .ok (.ireturn, 1) := by decide +kernel
theorem dX8_chance_27 : decode cX8_chance 27 = .ok (.aload_n 0, 1) := by decide +kernel
theorem dX8_chance_28 : decode cX8_chance 28 = .ok (.getfield 64, 3) := by decide +kernel
theorem dX8_chance_31 : decode cX8_chance 31 = .ok (.iload_n 1, 1) := by decide +kernel
theorem dX8_chance_32 : decode cX8_chance 32 = .ok (.iconst (-1), 1) := by decide +kernel
theorem dX8_chance_33 : decode cX8_chance 33 = .ok (.if_icmp .ne 13, 3) := by decide +kernel
theorem dX8_chance_36 : decode cX8_chance 36 = .ok (.aload_n 0, 1) := by decide +kernel
theorem dX8_chance_37 : decode cX8_chance 37 = .ok (.getfield 16, 3) := by decide +kernel
theorem dX8_chance_40 : decode cX8_chance 40 = .ok (.getfield 311, 3) := by decide +kernel
theorem dX8_chance_43 : decode cX8_chance 43 = .ok (.goto 4, 3) := by decide +kernel
theorem dX8_chance_46 : decode cX8_chance 46 = .ok (.iload_n 1, 1) := by decide +kernel
theorem dX8_chance_47 : decode cX8_chance 47 = .ok (.iload_n 2, 1) := by decide +kernel
theorem dX8_chance_48 : decode cX8_chance 48 = .ok (.iload_n 3, 1) := by decide +kernel
theorem dX8_chance_49 : decode cX8_chance 49 = .ok (.invokevirtual 314, 3) := by decide +kernel
theorem dX8_chance_52 : decode cX8_chance 52 = .ok (.ireturn, 1) := by decide +kernel
theorem dX8_undo_0 : decode cX8_undo 0 = .ok (.aload_n 0, 1) := by decide +kernel
theorem dX8_undo_1 : decode cX8_undo 1 = .ok (.getfield 32, 3) := by decide +kernel
theorem dX8_undo_4 : decode cX8_undo 4 = .ok (.getfield 318, 3) := by decide +kernel
theorem dX8_undo_7 : decode cX8_undo 7 = .ok (.ifCond .ne 5, 3) := by decide +kernel
theorem dX8_undo_10 : decode cX8_undo 10 = .ok (.iconst (-1), 1) := by decide +kernel
theorem dX8_undo_11 : decode cX8_undo 11 = .ok (.ireturn, 1) := by decide +kernel
theorem dX8_undo_12 : decode cX8_undo 12 = .ok (.aload_n 0, 1) := by decide +kernel
theorem dX8_undo_13 : decode cX8_undo 13 = .ok (.getfield 32, 3) := by decide +kernel
theorem dX8_undo_16 : decode cX8_undo 16 = .ok (.aload_n 0, 1) := by decide +kernel
theorem dX8_undo_17 : decode cX8_undo 17 = .ok (.getfield 16, 3) := by decide +kernel
theorem dX8_undo_20 : decode cX8_undo 20 = .ok (.invokevirtual 321, 3) := by decide +kernel
theorem dX8_undo_23 : decode cX8_undo 23 = .ok (.aload_n 0, 1) := by decide +kernel
theorem dX8_undo_24 : decode cX8_undo 24 = .ok (.invokevirtual 93, 3) := by decide +kernel
theorem dX8_undo_27 : decode cX8_undo 27 = .ok (.aload_n 0, 1) := by decide +kernel
theorem dX8_undo_28 : decode cX8_undo 28 = .ok (.getfield 32, 3) := by decide +kernel
theorem dX8_undo_31 : decode cX8_undo 31 = .ok (.getfield 318, 3) := by decide +kernel
theorem dX8_undo_34 : decode cX8_undo 34 = .ok (.ireturn, 1) := by decide +kernel
theorem dX8_keep_0 : decode cX8_keep 0 = .ok (.aload_n 0, 1) := by decide +kernel
theorem dX8_keep_1 : decode cX8_keep 1 = .ok (.getfield 32, 3) := by decide +kernel
theorem dX8_keep_4 : decode cX8_keep 4 = .ok (.aload_n 0, 1) := by decide +kernel
theorem dX8_keep_5 : decode cX8_keep 5 = .ok (.getfield 16, 3) := by decide +kernel
theorem dX8_keep_8 : decode cX8_keep 8 = .ok (.invokevirtual 324, 3) := by decide +kernel
theorem dX8_keep_11 : decode cX8_keep 11 = .ok (.aload_n 0, 1) := by decide +kernel
theorem dX8_keep_12 : decode cX8_keep 12 = .ok (.getfield 16, 3) := by decide +kernel
theorem dX8_keep_15 : decode cX8_keep 15 = .ok (.getfield 128, 3) := by decide +kernel
theorem dX8_keep_18 : decode cX8_keep 18 = .ok (.ireturn, 1) := by decide +kernel
theorem dX8_back_0 : decode cX8_back 0 = .ok (.aload_n 0, 1) := by decide +kernel
theorem dX8_back_1 : decode cX8_back 1 = .ok (.getfield 32, 3) := by decide +kernel
theorem dX8_back_4 : decode cX8_back 4 = .ok (.getfield 89, 3) := by decide +kernel
theorem dX8_back_7 : decode cX8_back 7 = .ok (.ifCond .ne 5, 3) := by decide +kernel
theorem dX8_back_10 : decode cX8_back 10 = .ok (.iconst (-1), 1) := by decide +kernel
theorem dX8_back_11 : decode cX8_back 11 = .ok (.ireturn, 1) := by decide +kernel
theorem dX8_back_12 : decode cX8_back 12 = .ok (.aload_n 0, 1) := by decide +kernel
theorem dX8_back_13 : decode cX8_back 13 = .ok (.getfield 32, 3) := by decide +kernel
theorem dX8_back_16 : decode cX8_back 16 = .ok (.aload_n 0, 1) := by decide +kernel
theorem dX8_back_17 : decode cX8_back 17 = .ok (.getfield 16, 3) := by decide +kernel
theorem dX8_back_20 : decode cX8_back 20 = .ok (.invokevirtual 327, 3) := by decide +kernel
theorem dX8_back_23 : decode cX8_back 23 = .ok (.aload_n 0, 1) := by decide +kernel
theorem dX8_back_24 : decode cX8_back 24 = .ok (.getfield 32, 3) := by decide +kernel
theorem dX8_back_27 : decode cX8_back 27 = .ok (.invokevirtual 86, 3) := by decide +kernel
theorem dX8_back_30 : decode cX8_back 30 = .ok (.aload_n 0, 1) := by decide +kernel
theorem dX8_back_31 : decode cX8_back 31 = .ok (.invokevirtual 93, 3) := by decide +kernel
theorem dX8_back_34 : decode cX8_back 34 = .ok (.aload_n 0, 1) := by decide +kernel
theorem dX8_back_35 : decode cX8_back 35 = .ok (.getfield 16, 3) := by decide +kernel
theorem dX8_back_38 : decode cX8_back 38 = .ok (.getfield 128, 3) := by decide +kernel
theorem dX8_back_41 : decode cX8_back 41 = .ok (.ireturn, 1) := by decide +kernel
theorem dX8_count_0 : decode cX8_count 0 = .ok (.iload_n 1, 1) := by decide +kernel
theorem dX8_count_1 : decode cX8_count 1 = .ok (.tableswitch 126 0 8 #[51, 59, 67, 75, 83, 94, 102, 107, 115], 51) := by decide +kernel
theorem dX8_count_52 : decode cX8_count 52 = .ok (.aload_n 0, 1) := by decide +kernel
theorem dX8_count_53 : decode cX8_count 53 = .ok (.getfield 16, 3) := by decide +kernel
theorem dX8_count_56 : decode cX8_count 56 = .ok (.getfield 108, 3) := by decide +kernel
theorem dX8_count_59 : decode cX8_count 59 = .ok (.ireturn, 1) := by decide +kernel
theorem dX8_count_60 : decode cX8_count 60 = .ok (.aload_n 0, 1) := by decide +kernel
theorem dX8_count_61 : decode cX8_count 61 = .ok (.getfield 16, 3) := by decide +kernel
theorem dX8_count_64 : decode cX8_count 64 = .ok (.getfield 118, 3) := by decide +kernel
theorem dX8_count_67 : decode cX8_count 67 = .ok (.ireturn, 1) := by decide +kernel
theorem dX8_count_68 : decode cX8_count 68 = .ok (.aload_n 0, 1) := by decide +kernel
theorem dX8_count_69 : decode cX8_count 69 = .ok (.getfield 16, 3) := by decide +kernel
theorem dX8_count_72 : decode cX8_count 72 = .ok (.getfield 197, 3) := by decide +kernel
theorem dX8_count_75 : decode cX8_count 75 = .ok (.ireturn, 1) := by decide +kernel
theorem dX8_count_76 : decode cX8_count 76 = .ok (.aload_n 0, 1) := by decide +kernel
theorem dX8_count_77 : decode cX8_count 77 = .ok (.getfield 16, 3) := by decide +kernel
theorem dX8_count_80 : decode cX8_count 80 = .ok (.getfield 128, 3) := by decide +kernel
theorem dX8_count_83 : decode cX8_count 83 = .ok (.ireturn, 1) := by decide +kernel
theorem dX8_count_84 : decode cX8_count 84 = .ok (.aload_n 0, 1) := by decide +kernel
theorem dX8_count_85 : decode cX8_count 85 = .ok (.getfield 16, 3) := by decide +kernel
theorem dX8_count_88 : decode cX8_count 88 = .ok (.getfield 155, 3) := by decide +kernel
theorem dX8_count_91 : decode cX8_count 91 = .ok (.invokestatic 330, 3) := by decide +kernel
theorem dX8_count_94 : decode cX8_count 94 = .ok (.ireturn, 1) := by decide +kernel
theorem dX8_count_95 : decode cX8_count 95 = .ok (.aload_n 0, 1) := by decide +kernel
theorem dX8_count_96 : decode cX8_count 96 = .ok (.getfield 32, 3) := by decide +kernel
theorem dX8_count_99 : decode cX8_count 99 = .ok (.getfield 318, 3) := by decide +kernel
theorem dX8_count_102 : decode cX8_count 102 = .ok (.ireturn, 1) := by decide +kernel
theorem dX8_count_103 : decode cX8_count 103 = .ok (.aload_n 0, 1) := by decide +kernel
theorem dX8_count_104 : decode cX8_count 104 = .ok (.getfield 68, 3) := by decide +kernel
theorem dX8_count_107 : decode cX8_count 107 = .ok (.ireturn, 1) := by decide +kernel
theorem dX8_count_108 : decode cX8_count 108 = .ok (.aload_n 0, 1) := by decide +kernel
theorem dX8_count_109 : decode cX8_count 109 = .ok (.getfield 16, 3) := by decide +kernel
theorem dX8_count_112 : decode cX8_count 112 = .ok (.getfield 161, 3) := by decide +kernel
theorem dX8_count_115 : decode cX8_count 115 = .ok (.ireturn, 1) := by decide +kernel
theorem dX8_count_116 : decode cX8_count 116 = .ok (.aload_n 0, 1) := by decide +kernel
theorem dX8_count_117 : decode cX8_count 117 = .ok (.getfield 16, 3) := by decide +kernel
theorem dX8_count_120 : decode cX8_count 120 = .ok (.invokevirtual 335, 3) := by decide +kernel
theorem dX8_count_123 : decode cX8_count 123 = .ok (.invokestatic 330, 3) := by decide +kernel
theorem dX8_count_126 : decode cX8_count 126 = .ok (.ireturn, 1) := by decide +kernel
theorem dX8_count_127 : decode cX8_count 127 = .ok (.iconst (-1), 1) := by decide +kernel
theorem dX8_count_128 : decode cX8_count 128 = .ok (.ireturn, 1) := by decide +kernel
theorem dX8_roundedUp_0 : decode cX8_roundedUp 0 = .ok (.iload_n 0, 1) := by decide +kernel
theorem dX8_roundedUp_1 : decode cX8_roundedUp 1 = .ok (.ineg, 1) := by decide +kernel
theorem dX8_roundedUp_2 : decode cX8_roundedUp 2 = .ok (.iload_n 1, 1) := by decide +kernel
theorem dX8_roundedUp_3 : decode cX8_roundedUp 3 = .ok (.iconst 1, 1) := by decide +kernel
theorem dX8_roundedUp_4 : decode cX8_roundedUp 4 = .ok (.invokestatic 338, 3) := by decide +kernel
theorem dX8_roundedUp_7 : decode cX8_roundedUp 7 = .ok (.invokestatic 343, 3) := by decide +kernel
theorem dX8_roundedUp_10 : decode cX8_roundedUp 10 = .ok (.ineg, 1) := by decide +kernel
theorem dX8_roundedUp_11 : decode cX8_roundedUp 11 = .ok (.ireturn, 1) := by decide +kernel
theorem dX9_init_0 : decode cX9_init 0 = .ok (.aload_n 0, 1) := by decide +kernel
theorem dX9_init_1 : decode cX9_init 1 = .ok (.invokespecial 1, 3) := by decide +kernel
theorem dX9_init_4 : decode cX9_init 4 = .ok (.aload_n 0, 1) := by decide +kernel
theorem dX9_init_5 : decode cX9_init 5 = .ok (.sipush 700, 3) := by decide +kernel
theorem dX9_init_8 : decode cX9_init 8 = .ok (.newarray .int, 2) := by decide +kernel
theorem dX9_init_10 : decode cX9_init 10 = .ok (.putfield 7, 3) := by decide +kernel
theorem dX9_init_13 : decode cX9_init 13 = .ok (.aload_n 0, 1) := by decide +kernel
theorem dX9_init_14 : decode cX9_init 14 = .ok (.bipush 12, 2) := by decide +kernel
theorem dX9_init_16 : decode cX9_init 16 = .ok (.newarray .int, 2) := by decide +kernel
theorem dX9_init_18 : decode cX9_init 18 = .ok (.putfield 13, 3) := by decide +kernel
theorem dX9_init_21 : decode cX9_init 21 = .ok (.aload_n 0, 1) := by decide +kernel
theorem dX9_init_22 : decode cX9_init 22 = .ok (.bipush 7, 2) := by decide +kernel
theorem dX9_init_24 : decode cX9_init 24 = .ok (.newarray .boolean, 2) := by decide +kernel
theorem dX9_init_26 : decode cX9_init 26 = .ok (.putfield 16, 3) := by decide +kernel
theorem dX9_init_29 : decode cX9_init 29 = .ok (.aload_n 0, 1) := by decide +kernel
theorem dX9_init_30 : decode cX9_init 30 = .ok (.bipush 8, 2) := by decide +kernel
theorem dX9_init_32 : decode cX9_init 32 = .ok (.newarray .int, 2) := by decide +kernel
theorem dX9_init_34 : decode cX9_init 34 = .ok (.putfield 20, 3) := by decide +kernel
theorem dX9_init_37 : decode cX9_init 37 = .ok (.aload_n 0, 1) := by decide +kernel
theorem dX9_init_38 : decode cX9_init 38 = .ok (.bipush 8, 2) := by decide +kernel
theorem dX9_init_40 : decode cX9_init 40 = .ok (.newarray .int, 2) := by decide +kernel
theorem dX9_init_42 : decode cX9_init 42 = .ok (.putfield 23, 3) := by decide +kernel
theorem dX9_init_45 : decode cX9_init 45 = .ok (.aload_n 0, 1) := by decide +kernel
theorem dX9_init_46 : decode cX9_init 46 = .ok (.bipush 8, 2) := by decide +kernel
theorem dX9_init_48 : decode cX9_init 48 = .ok (.newarray .int, 2) := by decide +kernel
theorem dX9_init_50 : decode cX9_init 50 = .ok (.putfield 26, 3) := by decide +kernel
theorem dX9_init_53 : decode cX9_init 53 = .ok (.aload_n 0, 1) := by decide +kernel
theorem dX9_init_54 : decode cX9_init 54 = .ok (.bipush 20, 2) := by decide +kernel
theorem dX9_init_56 : decode cX9_init 56 = .ok (.newarray .int, 2) := by decide +kernel
theorem dX9_init_58 : decode cX9_init 58 = .ok (.putfield 29, 3) := by decide +kernel
theorem dX9_init_61 : decode cX9_init 61 = .ok (.aload_n 0, 1) := by decide +kernel
theorem dX9_init_62 : decode cX9_init 62 = .ok (.bipush 20, 2) := by decide +kernel
theorem dX9_init_64 : decode cX9_init 64 = .ok (.newarray .int, 2) := by decide +kernel
theorem dX9_init_66 : decode cX9_init 66 = .ok (.putfield 32, 3) := by decide +kernel
theorem dX9_init_69 : decode cX9_init 69 = .ok (.aload_n 0, 1) := by decide +kernel
theorem dX9_init_70 : decode cX9_init 70 = .ok (.bipush 20, 2) := by decide +kernel
theorem dX9_init_72 : decode cX9_init 72 = .ok (.newarray .int, 2) := by decide +kernel
theorem dX9_init_74 : decode cX9_init 74 = .ok (.putfield 35, 3) := by decide +kernel
theorem dX9_init_77 : decode cX9_init 77 = .ok (.aload_n 0, 1) := by decide +kernel
theorem dX9_init_78 : decode cX9_init 78 = .ok (.bipush 20, 2) := by decide +kernel
theorem dX9_init_80 : decode cX9_init 80 = .ok (.newarray .int, 2) := by decide +kernel
theorem dX9_init_82 : decode cX9_init 82 = .ok (.putfield 38, 3) := by decide +kernel
theorem dX9_init_85 : decode cX9_init 85 = .ok (.aload_n 0, 1) := by decide +kernel
theorem dX9_init_86 : decode cX9_init 86 = .ok (.bipush 20, 2) := by decide +kernel
theorem dX9_init_88 : decode cX9_init 88 = .ok (.newarray .int, 2) := by decide +kernel
theorem dX9_init_90 : decode cX9_init 90 = .ok (.putfield 41, 3) := by decide +kernel
theorem dX9_init_93 : decode cX9_init 93 = .ok (.aload_n 0, 1) := by decide +kernel
theorem dX9_init_94 : decode cX9_init 94 = .ok (.bipush 20, 2) := by decide +kernel
theorem dX9_init_96 : decode cX9_init 96 = .ok (.newarray .boolean, 2) := by decide +kernel
theorem dX9_init_98 : decode cX9_init 98 = .ok (.putfield 44, 3) := by decide +kernel
theorem dX9_init_101 : decode cX9_init 101 = .ok (.aload_n 0, 1) := by decide +kernel
theorem dX9_init_102 : decode cX9_init 102 = .ok (.bipush 48, 2) := by decide +kernel
theorem dX9_init_104 : decode cX9_init 104 = .ok (.newarray .int, 2) := by decide +kernel
theorem dX9_init_106 : decode cX9_init 106 = .ok (.putfield 47, 3) := by decide +kernel
theorem dX9_init_109 : decode cX9_init 109 = .ok (.aload_n 0, 1) := by decide +kernel
theorem dX9_init_110 : decode cX9_init 110 = .ok (.bipush 48, 2) := by decide +kernel
theorem dX9_init_112 : decode cX9_init 112 = .ok (.newarray .int, 2) := by decide +kernel
theorem dX9_init_114 : decode cX9_init 114 = .ok (.putfield 50, 3) := by decide +kernel
theorem dX9_init_117 : decode cX9_init 117 = .ok (.aload_n 0, 1) := by decide +kernel
theorem dX9_init_118 : decode cX9_init 118 = .ok (.bipush 48, 2) := by decide +kernel
theorem dX9_init_120 : decode cX9_init 120 = .ok (.newarray .int, 2) := by decide +kernel
theorem dX9_init_122 : decode cX9_init 122 = .ok (.putfield 53, 3) := by decide +kernel
theorem dX9_init_125 : decode cX9_init 125 = .ok (.aload_n 0, 1) := by decide +kernel
theorem dX9_init_126 : decode cX9_init 126 = .ok (.bipush 48, 2) := by decide +kernel
theorem dX9_init_128 : decode cX9_init 128 = .ok (.newarray .int, 2) := by decide +kernel
theorem dX9_init_130 : decode cX9_init 130 = .ok (.putfield 56, 3) := by decide +kernel
theorem dX9_init_133 : decode cX9_init 133 = .ok (.aload_n 0, 1) := by decide +kernel
theorem dX9_init_134 : decode cX9_init 134 = .ok (.iconst (-1), 1) := by decide +kernel
theorem dX9_init_135 : decode cX9_init 135 = .ok (.putfield 59, 3) := by decide +kernel
theorem dX9_init_138 : decode cX9_init 138 = .ok (.aload_n 0, 1) := by decide +kernel
theorem dX9_init_139 : decode cX9_init 139 = .ok (.bipush 68, 2) := by decide +kernel
theorem dX9_init_141 : decode cX9_init 141 = .ok (.newarray .int, 2) := by decide +kernel
theorem dX9_init_143 : decode cX9_init 143 = .ok (.putfield 63, 3) := by decide +kernel
theorem dX9_init_146 : decode cX9_init 146 = .ok (.aload_n 0, 1) := by decide +kernel
theorem dX9_init_147 : decode cX9_init 147 = .ok (.sipush 1428, 3) := by decide +kernel
theorem dX9_init_150 : decode cX9_init 150 = .ok (.newarray .int, 2) := by decide +kernel
theorem dX9_init_152 : decode cX9_init 152 = .ok (.putfield 66, 3) := by decide +kernel
theorem dX9_init_155 : decode cX9_init 155 = .ok (.aload_n 0, 1) := by decide +kernel
theorem dX9_init_156 : decode cX9_init 156 = .ok (.bipush 10, 2) := by decide +kernel
theorem dX9_init_158 : decode cX9_init 158 = .ok (.newarray .long, 2) := by decide +kernel
theorem dX9_init_160 : decode cX9_init 160 = .ok (.putfield 69, 3) := by decide +kernel
theorem dX9_init_163 : decode cX9_init 163 = .ok (.aload_n 0, 1) := by decide +kernel
theorem dX9_init_164 : decode cX9_init 164 = .ok (.bipush 10, 2) := by decide +kernel
theorem dX9_init_166 : decode cX9_init 166 = .ok (.newarray .long, 2) := by decide +kernel
theorem dX9_init_168 : decode cX9_init 168 = .ok (.putfield 73, 3) := by decide +kernel
theorem dX9_init_171 : decode cX9_init 171 = .ok (.aload_n 0, 1) := by decide +kernel
theorem dX9_init_172 : decode cX9_init 172 = .ok (.bipush 10, 2) := by decide +kernel
theorem dX9_init_174 : decode cX9_init 174 = .ok (.newarray .long, 2) := by decide +kernel
theorem dX9_init_176 : decode cX9_init 176 = .ok (.putfield 76, 3) := by decide +kernel
theorem dX9_init_179 : decode cX9_init 179 = .ok (.aload_n 0, 1) := by decide +kernel
theorem dX9_init_180 : decode cX9_init 180 = .ok (.bipush 10, 2) := by decide +kernel
theorem dX9_init_182 : decode cX9_init 182 = .ok (.newarray .int, 2) := by decide +kernel
theorem dX9_init_184 : decode cX9_init 184 = .ok (.putfield 79, 3) := by decide +kernel
theorem dX9_init_187 : decode cX9_init 187 = .ok (.aload_n 0, 1) := by decide +kernel
theorem dX9_init_188 : decode cX9_init 188 = .ok (.bipush 10, 2) := by decide +kernel
theorem dX9_init_190 : decode cX9_init 190 = .ok (.newarray .int, 2) := by decide +kernel
theorem dX9_init_192 : decode cX9_init 192 = .ok (.putfield 82, 3) := by decide +kernel
theorem dX9_init_195 : decode cX9_init 195 = .ok (.aload_n 0, 1) := by decide +kernel
theorem dX9_init_196 : decode cX9_init 196 = .ok (.bipush 10, 2) := by decide +kernel
theorem dX9_init_198 : decode cX9_init 198 = .ok (.newarray .int, 2) := by decide +kernel
theorem dX9_init_200 : decode cX9_init 200 = .ok (.putfield 85, 3) := by decide +kernel
theorem dX9_init_203 : decode cX9_init 203 = .ok (.aload_n 0, 1) := by decide +kernel
theorem dX9_init_204 : decode cX9_init 204 = .ok (.bipush 10, 2) := by decide +kernel
theorem dX9_init_206 : decode cX9_init 206 = .ok (.newarray .int, 2) := by decide +kernel
theorem dX9_init_208 : decode cX9_init 208 = .ok (.putfield 88, 3) := by decide +kernel
theorem dX9_init_211 : decode cX9_init 211 = .ok (.aload_n 0, 1) := by decide +kernel
theorem dX9_init_212 : decode cX9_init 212 = .ok (.bipush 24, 2) := by decide +kernel
theorem dX9_init_214 : decode cX9_init 214 = .ok (.newarray .int, 2) := by decide +kernel
theorem dX9_init_216 : decode cX9_init 216 = .ok (.putfield 91, 3) := by decide +kernel
theorem dX9_init_219 : decode cX9_init 219 = .ok (.aload_n 0, 1) := by decide +kernel
theorem dX9_init_220 : decode cX9_init 220 = .ok (.invokevirtual 94, 3) := by decide +kernel
theorem dX9_init_223 : decode cX9_init 223 = .ok (.aload_n 0, 1) := by decide +kernel
theorem dX9_init_224 : decode cX9_init 224 = .ok (.invokevirtual 97, 3) := by decide +kernel
theorem dX9_init_227 : decode cX9_init 227 = .ok (.aload_n 0, 1) := by decide +kernel
theorem dX9_init_228 : decode cX9_init 228 = .ok (.invokevirtual 100, 3) := by decide +kernel
theorem dX9_init_231 : decode cX9_init 231 = .ok (.return_, 1) := by decide +kernel
theorem dX9_thrown_0 : decode cX9_thrown 0 = .ok (.aload_n 0, 1) := by decide +kernel
theorem dX9_thrown_1 : decode cX9_thrown 1 = .ok (.getfield 103, 3) := by decide +kernel
theorem dX9_thrown_4 : decode cX9_thrown 4 = .ok (.ireturn, 1) := by decide +kernel
theorem dX9_feed_0 : decode cX9_feed 0 = .ok (.aload_n 0, 1) := by decide +kernel
theorem dX9_feed_1 : decode cX9_feed 1 = .ok (.iconst 0, 1) := by decide +kernel
theorem dX9_feed_2 : decode cX9_feed 2 = .ok (.putfield 103, 3) := by decide +kernel
theorem dX9_feed_5 : decode cX9_feed 5 = .ok (.aload_n 0, 1) := by decide +kernel
theorem dX9_feed_6 : decode cX9_feed 6 = .ok (.getfield 106, 3) := by decide +kernel
theorem dX9_feed_9 : decode cX9_feed 9 = .ok (.sipush 680, 3) := by decide +kernel
theorem dX9_feed_12 : decode cX9_feed 12 = .ok (.if_icmp .le 5, 3) := by decide +kernel
theorem dX9_feed_15 : decode cX9_feed 15 = .ok (.iconst (-1), 1) := by decide +kernel
theorem dX9_feed_16 : decode cX9_feed 16 = .ok (.ireturn, 1) := by decide +kernel
theorem dX9_feed_17 : decode cX9_feed 17 = .ok (.iconst 0, 1) := by decide +kernel
theorem dX9_feed_18 : decode cX9_feed 18 = .ok (.istore 6, 2) := by decide +kernel
theorem dX9_feed_20 : decode cX9_feed 20 = .ok (.iload 6, 2) := by decide +kernel
theorem dX9_feed_22 : decode cX9_feed 22 = .ok (.bipush 20, 2) := by decide +kernel
theorem dX9_feed_24 : decode cX9_feed 24 = .ok (.if_icmp .ge 86, 3) := by decide +kernel
theorem dX9_feed_27 : decode cX9_feed 27 = .ok (.iload 6, 2) := by decide +kernel
theorem dX9_feed_29 : decode cX9_feed 29 = .ok (.iconst 4, 1) := by decide +kernel
theorem dX9_feed_30 : decode cX9_feed 30 = .ok (.if_icmp .ge 7, 3) := by decide +kernel
theorem dX9_feed_33 : decode cX9_feed 33 = .ok (.iload_n 1, 1) := by decide +kernel
theorem dX9_feed_34 : decode cX9_feed 34 = .ok (.goto 39, 3) := by decide +kernel
theorem dX9_feed_37 : decode cX9_feed 37 = .ok (.iload 6, 2) := by decide +kernel
theorem dX9_feed_39 : decode cX9_feed 39 = .ok (.bipush 8, 2) := by decide +kernel
theorem dX9_feed_41 : decode cX9_feed 41 = .ok (.if_icmp .ge 7, 3) := by decide +kernel
theorem dX9_feed_44 : decode cX9_feed 44 = .ok (.iload_n 2, 1) := by decide +kernel
theorem dX9_feed_45 : decode cX9_feed 45 = .ok (.goto 28, 3) := by decide +kernel
theorem dX9_feed_48 : decode cX9_feed 48 = .ok (.iload 6, 2) := by decide +kernel
theorem dX9_feed_50 : decode cX9_feed 50 = .ok (.bipush 12, 2) := by decide +kernel
theorem dX9_feed_52 : decode cX9_feed 52 = .ok (.if_icmp .ge 7, 3) := by decide +kernel
theorem dX9_feed_55 : decode cX9_feed 55 = .ok (.iload_n 3, 1) := by decide +kernel
theorem dX9_feed_56 : decode cX9_feed 56 = .ok (.goto 17, 3) := by decide +kernel
theorem dX9_feed_59 : decode cX9_feed 59 = .ok (.iload 6, 2) := by decide +kernel
theorem dX9_feed_61 : decode cX9_feed 61 = .ok (.bipush 16, 2) := by decide +kernel
theorem dX9_feed_63 : decode cX9_feed 63 = .ok (.if_icmp .ge 8, 3) := by decide +kernel
theorem dX9_feed_66 : decode cX9_feed 66 = .ok (.iload 4, 2) := by decide +kernel
theorem dX9_feed_68 : decode cX9_feed 68 = .ok (.goto 5, 3) := by decide +kernel
theorem dX9_feed_71 : decode cX9_feed 71 = .ok (.iload 5, 2) := by decide +kernel
theorem dX9_feed_73 : decode cX9_feed 73 = .ok (.istore 7, 2) := by decide +kernel
theorem dX9_feed_75 : decode cX9_feed 75 = .ok (.aload_n 0, 1) := by decide +kernel
theorem dX9_feed_76 : decode cX9_feed 76 = .ok (.getfield 7, 3) := by decide +kernel
theorem dX9_feed_79 : decode cX9_feed 79 = .ok (.aload_n 0, 1) := by decide +kernel
theorem dX9_feed_80 : decode cX9_feed 80 = .ok (.getfield 106, 3) := by decide +kernel
theorem dX9_feed_83 : decode cX9_feed 83 = .ok (.iload 6, 2) := by decide +kernel
theorem dX9_feed_85 : decode cX9_feed 85 = .ok (.iadd, 1) := by decide +kernel
theorem dX9_feed_86 : decode cX9_feed 86 = .ok (.iload 7, 2) := by decide +kernel
theorem dX9_feed_88 : decode cX9_feed 88 = .ok (.bipush 24, 2) := by decide +kernel
theorem dX9_feed_90 : decode cX9_feed 90 = .ok (.bipush 8, 2) := by decide +kernel
theorem dX9_feed_92 : decode cX9_feed 92 = .ok (.iload 6, 2) := by decide +kernel
theorem dX9_feed_94 : decode cX9_feed 94 = .ok (.iconst 4, 1) := by decide +kernel
theorem dX9_feed_95 : decode cX9_feed 95 = .ok (.irem, 1) := by decide +kernel
theorem dX9_feed_96 : decode cX9_feed 96 = .ok (.imul, 1) := by decide +kernel
theorem dX9_feed_97 : decode cX9_feed 97 = .ok (.isub, 1) := by decide +kernel
theorem dX9_feed_98 : decode cX9_feed 98 = .ok (.ishr, 1) := by decide +kernel
theorem dX9_feed_99 : decode cX9_feed 99 = .ok (.sipush 255, 3) := by decide +kernel
theorem dX9_feed_102 : decode cX9_feed 102 = .ok (.iand, 1) := by decide +kernel
theorem dX9_feed_103 : decode cX9_feed 103 = .ok (.iastore, 1) := by decide +kernel
theorem dX9_feed_104 : decode cX9_feed 104 = .ok (.iinc 6 1, 3) := by decide +kernel
theorem dX9_feed_107 : decode cX9_feed 107 = .ok (.goto (-87), 3) := by decide +kernel
theorem dX9_feed_110 : decode cX9_feed 110 = .ok (.aload_n 0, 1) := by decide +kernel
theorem dX9_feed_111 : decode cX9_feed 111 = .ok (.dup, 1) := by decide +kernel
theorem dX9_feed_112 : decode cX9_feed 112 = .ok (.getfield 106, 3) := by decide +kernel
theorem dX9_feed_115 : decode cX9_feed 115 = .ok (.bipush 20, 2) := by decide +kernel
theorem dX9_feed_117 : decode cX9_feed 117 = .ok (.iadd, 1) := by decide +kernel
theorem dX9_feed_118 : decode cX9_feed 118 = .ok (.putfield 106, 3) := by decide +kernel
theorem dX9_feed_121 : decode cX9_feed 121 = .ok (.aload_n 0, 1) := by decide +kernel
theorem dX9_feed_122 : decode cX9_feed 122 = .ok (.getfield 106, 3) := by decide +kernel
theorem dX9_feed_125 : decode cX9_feed 125 = .ok (.ireturn, 1) := by decide +kernel
theorem dX9_here_0 : decode cX9_here 0 = .ok (.aload_n 0, 1) := by decide +kernel
theorem dX9_here_1 : decode cX9_here 1 = .ok (.getfield 109, 3) := by decide +kernel
theorem dX9_here_4 : decode cX9_here 4 = .ok (.aload_n 0, 1) := by decide +kernel
theorem dX9_here_5 : decode cX9_here 5 = .ok (.getfield 112, 3) := by decide +kernel
theorem dX9_here_8 : decode cX9_here 8 = .ok (.if_icmp .ge 15, 3) := by decide +kernel
theorem dX9_here_11 : decode cX9_here 11 = .ok (.aload_n 0, 1) := by decide +kernel
theorem dX9_here_12 : decode cX9_here 12 = .ok (.getfield 7, 3) := by decide +kernel
theorem dX9_here_15 : decode cX9_here 15 = .ok (.aload_n 0, 1) := by decide +kernel
theorem dX9_here_16 : decode cX9_here 16 = .ok (.getfield 109, 3) := by decide +kernel
theorem dX9_here_19 : decode cX9_here 19 = .ok (.iaload, 1) := by decide +kernel
theorem dX9_here_20 : decode cX9_here 20 = .ok (.goto 4, 3) := by decide +kernel
theorem dX9_here_23 : decode cX9_here 23 = .ok (.iconst (-1), 1) := by decide +kernel
theorem dX9_here_24 : decode cX9_here 24 = .ok (.ireturn, 1) := by decide +kernel
theorem dX9_isSmall_0 : decode cX9_isSmall 0 = .ok (.iload_n 0, 1) := by decide +kernel
theorem dX9_isSmall_1 : decode cX9_isSmall 1 = .ok (.bipush 97, 2) := by decide +kernel
theorem dX9_isSmall_3 : decode cX9_isSmall 3 = .ok (.if_icmp .lt 13, 3) := by decide +kernel
theorem dX9_isSmall_6 : decode cX9_isSmall 6 = .ok (.iload_n 0, 1) := by decide +kernel
theorem dX9_isSmall_7 : decode cX9_isSmall 7 = .ok (.bipush 122, 2) := by decide +kernel
theorem dX9_isSmall_9 : decode cX9_isSmall 9 = .ok (.if_icmp .gt 7, 3) := by decide +kernel
theorem dX9_isSmall_12 : decode cX9_isSmall 12 = .ok (.iconst 1, 1) := by decide +kernel
theorem dX9_isSmall_13 : decode cX9_isSmall 13 = .ok (.goto 4, 3) := by decide +kernel
theorem dX9_isSmall_16 : decode cX9_isSmall 16 = .ok (.iconst 0, 1) := by decide +kernel
theorem dX9_isSmall_17 : decode cX9_isSmall 17 = .ok (.ireturn, 1) := by decide +kernel
theorem dX9_isDigit_0 : decode cX9_isDigit 0 = .ok (.iload_n 0, 1) := by decide +kernel
theorem dX9_isDigit_1 : decode cX9_isDigit 1 = .ok (.bipush 48, 2) := by decide +kernel
theorem dX9_isDigit_3 : decode cX9_isDigit 3 = .ok (.if_icmp .lt 13, 3) := by decide +kernel
theorem dX9_isDigit_6 : decode cX9_isDigit 6 = .ok (.iload_n 0, 1) := by decide +kernel
theorem dX9_isDigit_7 : decode cX9_isDigit 7 = .ok (.bipush 57, 2) := by decide +kernel
theorem dX9_isDigit_9 : decode cX9_isDigit 9 = .ok (.if_icmp .gt 7, 3) := by decide +kernel
theorem dX9_isDigit_12 : decode cX9_isDigit 12 = .ok (.iconst 1, 1) := by decide +kernel
theorem dX9_isDigit_13 : decode cX9_isDigit 13 = .ok (.goto 4, 3) := by decide +kernel
theorem dX9_isDigit_16 : decode cX9_isDigit 16 = .ok (.iconst 0, 1) := by decide +kernel
theorem dX9_isDigit_17 : decode cX9_isDigit 17 = .ok (.ireturn, 1) := by decide +kernel
theorem dX9_token_0 : decode cX9_token 0 = .ok (.aload_n 0, 1) := by decide +kernel
theorem dX9_token_1 : decode cX9_token 1 = .ok (.invokevirtual 115, 3) := by decide +kernel
theorem dX9_token_4 : decode cX9_token 4 = .ok (.bipush 10, 2) := by decide +kernel
theorem dX9_token_6 : decode cX9_token 6 = .ok (.if_icmp .eq 12, 3) := by decide +kernel
theorem dX9_token_9 : decode cX9_token 9 = .ok (.aload_n 0, 1) := by decide +kernel
theorem dX9_token_10 : decode cX9_token 10 = .ok (.invokevirtual 115, 3) := by decide +kernel
theorem dX9_token_13 : decode cX9_token 13 = .ok (.bipush 32, 2) := by decide +kernel
theorem dX9_token_15 : decode cX9_token 15 = .ok (.if_icmp .ne 16, 3) := by decide +kernel
theorem dX9_token_18 : decode cX9_token 18 = .ok (.aload_n 0, 1) := by decide +kernel
theorem dX9_token_19 : decode cX9_token 19 = .ok (.dup, 1) := by decide +kernel
theorem dX9_token_20 : decode cX9_token 20 = .ok (.getfield 109, 3) := by decide +kernel
theorem dX9_token_23 : decode cX9_token 23 = .ok (.iconst 1, 1) := by decide +kernel
theorem dX9_token_24 : decode cX9_token 24 = .ok (.iadd, 1) := by decide +kernel
theorem dX9_token_25 : decode cX9_token 25 = .ok (.putfield 109, 3) := by decide +kernel
theorem dX9_token_28 : decode cX9_token 28 = .ok (.goto (-28), 3) := by decide +kernel
theorem dX9_token_31 : decode cX9_token 31 = .ok (.aload_n 0, 1) := by decide +kernel
theorem dX9_token_32 : decode cX9_token 32 = .ok (.aload_n 0, 1) := by decide +kernel
theorem dX9_token_33 : decode cX9_token 33 = .ok (.getfield 109, 3) := by decide +kernel
theorem dX9_token_36 : decode cX9_token 36 = .ok (.putfield 119, 3) := by decide +kernel
theorem dX9_token_39 : decode cX9_token 39 = .ok (.aload_n 0, 1) := by decide +kernel
theorem dX9_token_40 : decode cX9_token 40 = .ok (.invokevirtual 115, 3) := by decide +kernel
theorem dX9_token_43 : decode cX9_token 43 = .ok (.istore_n 1, 1) := by decide +kernel
theorem dX9_token_44 : decode cX9_token 44 = .ok (.iload_n 1, 1) := by decide +kernel
theorem dX9_token_45 : decode cX9_token 45 = .ok (.iconst (-1), 1) := by decide +kernel
theorem dX9_token_46 : decode cX9_token 46 = .ok (.if_icmp .ne 11, 3) := by decide +kernel
theorem dX9_token_49 : decode cX9_token 49 = .ok (.aload_n 0, 1) := by decide +kernel
theorem dX9_token_50 : decode cX9_token 50 = .ok (.iconst 4, 1) := by decide +kernel
theorem dX9_token_51 : decode cX9_token 51 = .ok (.putfield 122, 3) := by decide +kernel
theorem dX9_token_54 : decode cX9_token 54 = .ok (.goto 191, 3) := by decide +kernel
theorem dX9_token_57 : decode cX9_token 57 = .ok (.iload_n 1, 1) := by decide +kernel
theorem dX9_token_58 : decode cX9_token 58 = .ok (.invokestatic 125, 3) := by decide +kernel
theorem dX9_token_61 : decode cX9_token 61 = .ok (.ifCond .eq 84, 3) := by decide +kernel
theorem dX9_token_64 : decode cX9_token 64 = .ok (.aload_n 0, 1) := by decide +kernel
theorem dX9_token_65 : decode cX9_token 65 = .ok (.invokevirtual 115, 3) := by decide +kernel
theorem dX9_token_68 : decode cX9_token 68 = .ok (.invokestatic 125, 3) := by decide +kernel
theorem dX9_token_71 : decode cX9_token 71 = .ok (.ifCond .eq 16, 3) := by decide +kernel
theorem dX9_token_74 : decode cX9_token 74 = .ok (.aload_n 0, 1) := by decide +kernel
theorem dX9_token_75 : decode cX9_token 75 = .ok (.dup, 1) := by decide +kernel
theorem dX9_token_76 : decode cX9_token 76 = .ok (.getfield 109, 3) := by decide +kernel
theorem dX9_token_79 : decode cX9_token 79 = .ok (.iconst 1, 1) := by decide +kernel
theorem dX9_token_80 : decode cX9_token 80 = .ok (.iadd, 1) := by decide +kernel
theorem dX9_token_81 : decode cX9_token 81 = .ok (.putfield 109, 3) := by decide +kernel
theorem dX9_token_84 : decode cX9_token 84 = .ok (.goto (-20), 3) := by decide +kernel
theorem dX9_token_87 : decode cX9_token 87 = .ok (.aload_n 0, 1) := by decide +kernel
theorem dX9_token_88 : decode cX9_token 88 = .ok (.aload_n 0, 1) := by decide +kernel
theorem dX9_token_89 : decode cX9_token 89 = .ok (.invokevirtual 129, 3) := by decide +kernel
theorem dX9_token_92 : decode cX9_token 92 = .ok (.putfield 132, 3) := by decide +kernel
theorem dX9_token_95 : decode cX9_token 95 = .ok (.aload_n 0, 1) := by decide +kernel
theorem dX9_token_96 : decode cX9_token 96 = .ok (.aload_n 0, 1) := by decide +kernel
theorem dX9_token_97 : decode cX9_token 97 = .ok (.getfield 132, 3) := by decide +kernel
theorem dX9_token_100 : decode cX9_token 100 = .ok (.iconst (-1), 1) := by decide +kernel
theorem dX9_token_101 : decode cX9_token 101 = .ok (.if_icmp .eq 7, 3) := by decide +kernel
theorem dX9_token_104 : decode cX9_token 104 = .ok (.iconst 0, 1) := by decide +kernel
theorem dX9_token_105 : decode cX9_token 105 = .ok (.goto 22, 3) := by decide +kernel
theorem dX9_token_108 : decode cX9_token 108 = .ok (.aload_n 0, 1) := by decide +kernel
theorem dX9_token_109 : decode cX9_token 109 = .ok (.getfield 109, 3) := by decide +kernel
theorem dX9_token_112 : decode cX9_token 112 = .ok (.aload_n 0, 1) := by decide +kernel
theorem dX9_token_113 : decode cX9_token 113 = .ok (.getfield 119, 3) := by decide +kernel
theorem dX9_token_116 : decode cX9_token 116 = .ok (.isub, 1) := by decide +kernel
theorem dX9_token_117 : decode cX9_token 117 = .ok (.bipush 6, 2) := by decide +kernel
theorem dX9_token_119 : decode cX9_token 119 = .ok (.if_icmp .le 7, 3) := by decide +kernel
theorem dX9_token_122 : decode cX9_token 122 = .ok (.iconst 5, 1) := by decide +kernel
theorem dX9_token_123 : decode cX9_token 123 = .ok (.goto 4, 3) := by decide +kernel
theorem dX9_token_126 : decode cX9_token 126 = .ok (.iconst 1, 1) := by decide +kernel
theorem dX9_token_127 : decode cX9_token 127 = .ok (.putfield 122, 3) := by decide +kernel
theorem dX9_token_130 : decode cX9_token 130 = .ok (.aload_n 0, 1) := by decide +kernel
theorem dX9_token_131 : decode cX9_token 131 = .ok (.getfield 122, 3) := by decide +kernel
theorem dX9_token_134 : decode cX9_token 134 = .ok (.iconst 1, 1) := by decide +kernel
theorem dX9_token_135 : decode cX9_token 135 = .ok (.if_icmp .ne 110, 3) := by decide +kernel
theorem dX9_token_138 : decode cX9_token 138 = .ok (.aload_n 0, 1) := by decide +kernel
theorem dX9_token_139 : decode cX9_token 139 = .ok (.invokevirtual 135, 3) := by decide +kernel
theorem dX9_token_142 : decode cX9_token 142 = .ok (.goto 103, 3) := by decide +kernel
theorem dX9_token_145 : decode cX9_token 145 = .ok (.iload_n 1, 1) := by decide +kernel
theorem dX9_token_146 : decode cX9_token 146 = .ok (.invokestatic 138, 3) := by decide +kernel
theorem dX9_token_149 : decode cX9_token 149 = .ok (.ifCond .eq 71, 3) := by decide +kernel
theorem dX9_token_152 : decode cX9_token 152 = .ok (.aload_n 0, 1) := by decide +kernel
theorem dX9_token_153 : decode cX9_token 153 = .ok (.iconst 2, 1) := by decide +kernel
theorem dX9_token_154 : decode cX9_token 154 = .ok (.putfield 122, 3) := by decide +kernel
theorem dX9_token_157 : decode cX9_token 157 = .ok (.aload_n 0, 1) := by decide +kernel
theorem dX9_token_158 : decode cX9_token 158 = .ok (.iconst 0, 1) := by decide +kernel
theorem dX9_token_159 : decode cX9_token 159 = .ok (.putfield 132, 3) := by decide +kernel
theorem dX9_token_162 : decode cX9_token 162 = .ok (.aload_n 0, 1) := by decide +kernel
theorem dX9_token_163 : decode cX9_token 163 = .ok (.invokevirtual 115, 3) := by decide +kernel
theorem dX9_token_166 : decode cX9_token 166 = .ok (.invokestatic 138, 3) := by decide +kernel
theorem dX9_token_169 : decode cX9_token 169 = .ok (.ifCond .eq 76, 3) := by decide +kernel
theorem dX9_token_172 : decode cX9_token 172 = .ok (.aload_n 0, 1) := by decide +kernel
theorem dX9_token_173 : decode cX9_token 173 = .ok (.aload_n 0, 1) := by decide +kernel
theorem dX9_token_174 : decode cX9_token 174 = .ok (.getfield 132, 3) := by decide +kernel
theorem dX9_token_177 : decode cX9_token 177 = .ok (.ldc 141, 2) := by decide +kernel
theorem dX9_token_179 : decode cX9_token 179 = .ok (.if_icmp .le 10, 3) := by decide +kernel
theorem dX9_token_182 : decode cX9_token 182 = .ok (.aload_n 0, 1) := by decide +kernel
theorem dX9_token_183 : decode cX9_token 183 = .ok (.getfield 132, 3) := by decide +kernel
theorem dX9_token_186 : decode cX9_token 186 = .ok (.goto 18, 3) := by decide +kernel
theorem dX9_token_189 : decode cX9_token 189 = .ok (.bipush 10, 2) := by decide +kernel
theorem dX9_token_191 : decode cX9_token 191 = .ok (.aload_n 0, 1) := by decide +kernel
theorem dX9_token_192 : decode cX9_token 192 = .ok (.getfield 132, 3) := by decide +kernel
theorem dX9_token_195 : decode cX9_token 195 = .ok (.imul, 1) := by decide +kernel
theorem dX9_token_196 : decode cX9_token 196 = .ok (.aload_n 0, 1) := by decide +kernel
theorem dX9_token_197 : decode cX9_token 197 = .ok (.invokevirtual 115, 3) := by decide +kernel
theorem dX9_token_200 : decode cX9_token 200 = .ok (.iadd, 1) := by decide +kernel
theorem dX9_token_201 : decode cX9_token 201 = .ok (.bipush 48, 2) := by decide +kernel
theorem dX9_token_203 : decode cX9_token 203 = .ok (.isub, 1) := by decide +kernel
theorem dX9_token_204 : decode cX9_token 204 = .ok (.putfield 132, 3) := by decide +kernel

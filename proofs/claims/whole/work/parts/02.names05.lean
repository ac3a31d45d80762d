theorem dX10_addsOn_73 : decode cX10_addsOn 73 = .ok (.iconst 1, 1) := by decide +kernel
theorem dX10_addsOn_74 : decode cX10_addsOn 74 = .ok (.goto 4, 3) := by decide +kernel
theorem dX10_addsOn_77 : decode cX10_addsOn 77 = .ok (.iconst 0, 1) := by decide +kernel
theorem dX10_addsOn_78 : decode cX10_addsOn 78 = .ok (.iadd, 1) := by decide +kernel
theorem dX10_addsOn_79 : decode cX10_addsOn 79 = .ok (.istore_n 2, 1) := by decide +kernel
theorem dX10_addsOn_80 : decode cX10_addsOn 80 = .ok (.aload_n 0, 1) := by decide +kernel
theorem dX10_addsOn_81 : decode cX10_addsOn 81 = .ok (.getfield 49, 3) := by decide +kernel
theorem dX10_addsOn_84 : decode cX10_addsOn 84 = .ok (.iload 4, 2) := by decide +kernel
theorem dX10_addsOn_86 : decode cX10_addsOn 86 = .ok (.iload_n 1, 1) := by decide +kernel
theorem dX10_addsOn_87 : decode cX10_addsOn 87 = .ok (.ifCond .eq 12, 3) := by decide +kernel
theorem dX10_addsOn_90 : decode cX10_addsOn 90 = .ok (.iload 5, 2) := by decide +kernel
theorem dX10_addsOn_92 : decode cX10_addsOn 92 = .ok (.ifCond .eq 7, 3) := by decide +kernel
theorem dX10_addsOn_95 : decode cX10_addsOn 95 = .ok (.iconst 1, 1) := by decide +kernel
theorem dX10_addsOn_96 : decode cX10_addsOn 96 = .ok (.goto 10, 3) := by decide +kernel
theorem dX10_addsOn_99 : decode cX10_addsOn 99 = .ok (.aload_n 0, 1) := by decide +kernel
theorem dX10_addsOn_100 : decode cX10_addsOn 100 = .ok (.getfield 49, 3) := by decide +kernel
theorem dX10_addsOn_103 : decode cX10_addsOn 103 = .ok (.iload 4, 2) := by decide +kernel
theorem dX10_addsOn_105 : decode cX10_addsOn 105 = .ok (.iaload, 1) := by decide +kernel
theorem dX10_addsOn_106 : decode cX10_addsOn 106 = .ok (.iastore, 1) := by decide +kernel
theorem dX10_addsOn_107 : decode cX10_addsOn 107 = .ok (.iinc 3 1, 3) := by decide +kernel
theorem dX10_addsOn_110 : decode cX10_addsOn 110 = .ok (.goto (-106), 3) := by decide +kernel
theorem dX10_addsOn_113 : decode cX10_addsOn 113 = .ok (.iload_n 2, 1) := by decide +kernel
theorem dX10_addsOn_114 : decode cX10_addsOn 114 = .ok (.ireturn, 1) := by decide +kernel
set_option maxRecDepth 20000 in
theorem ggX10_bestPair_X10_isPair : GoodIn wsX10_bestPair wsX10_isPair := goodIn_r _ [5, 6, 7, 8, 9, 4, 10, 51, 52, 53, 54, 55, 56, 57, 58, 59, 60, 61, 62, 63, 64, 65, 66, 67, 68, 69, 70, 71, 72, 73, 74, 75, 76, 77, 78, 79, 80, 81] (by decide +kernel) (by decide +kernel)
set_option maxRecDepth 20000 in
theorem gX10_bestPair_X10_isPair : GoodIn wsX10_bestPair (wsV RX10 170 RX10 yX10_isPair wsX10_isPair) := goodIn_app (goodIn_of _ (by decide +kernel)) ggX10_bestPair_X10_isPair
set_option maxRecDepth 20000 in
theorem ggX10_bestPair_X10_findPair : GoodIn wsX10_bestPair wsX10_findPair := goodIn_r _ [14, 7, 15, 16, 17, 18, 19, 20, 21, 22, 23, 4, 24, 25, 26, 27, 28, 29, 30, 51, 52, 53, 54, 55, 56, 57, 58, 59, 60, 61, 62, 63, 64, 65, 66, 67, 68, 69, 70, 71, 72, 73, 74, 75, 76, 77, 78, 79, 80, 81] (by decide +kernel) (by decide +kernel)
set_option maxRecDepth 20000 in
theorem gX10_bestPair_X10_findPair : GoodIn wsX10_bestPair (wsV RX10 173 RX10 yX10_findPair wsX10_findPair) := goodIn_app (goodIn_of _ (by decide +kernel)) ggX10_bestPair_X10_findPair
set_option maxRecDepth 20000 in
theorem ggX10_bestPair_X10_isLaunched : GoodIn wsX10_bestPair wsX10_isLaunched := goodIn_r _ [34, 7, 16, 15, 35, 51, 52, 53, 54, 55, 56, 57, 58, 59, 60, 61, 62, 63, 64, 65, 66, 67, 68, 69, 70, 71, 72, 73, 74, 75, 76, 77, 78, 79, 80, 81] (by decide +kernel) (by decide +kernel)
set_option maxRecDepth 20000 in
theorem gX10_bestPair_X10_isLaunched : GoodIn wsX10_bestPair (wsV RX10 180 RX10 yX10_isLaunched wsX10_isLaunched) := goodIn_app (goodIn_of _ (by decide +kernel)) ggX10_bestPair_X10_isLaunched
set_option maxRecDepth 20000 in
theorem ggX10_bestPair_X10_addsOn : GoodIn wsX10_bestPair wsX10_addsOn := goodIn_r _ [39, 40, 16, 41, 42, 43, 44, 45, 46, 4, 47, 15, 18, 19, 21, 20, 17, 48, 49, 50, 51, 52, 53, 54, 55, 56, 57, 58, 59, 60, 61, 62, 63, 64, 65, 66, 67, 68, 69, 70, 71, 72, 73, 74, 75, 76, 77, 78, 79, 80, 81] (by decide +kernel) (by decide +kernel)
set_option maxRecDepth 20000 in
theorem gX10_bestPair_X10_addsOn : GoodIn wsX10_bestPair (wsV RX10 198 RX10 yX10_addsOn wsX10_addsOn) := goodIn_app (goodIn_of _ (by decide +kernel)) ggX10_bestPair_X10_addsOn
theorem dX10_bestPair_0 : decode cX10_bestPair 0 = .ok (.bipush (-9), 2) := by decide +kernel
theorem dX10_bestPair_2 : decode cX10_bestPair 2 = .ok (.istore_n 2, 1) := by decide +kernel
theorem dX10_bestPair_3 : decode cX10_bestPair 3 = .ok (.iconst 0, 1) := by decide +kernel
theorem dX10_bestPair_4 : decode cX10_bestPair 4 = .ok (.istore_n 3, 1) := by decide +kernel
theorem dX10_bestPair_5 : decode cX10_bestPair 5 = .ok (.iconst 0, 1) := by decide +kernel
theorem dX10_bestPair_6 : decode cX10_bestPair 6 = .ok (.istore 4, 2) := by decide +kernel
theorem dX10_bestPair_8 : decode cX10_bestPair 8 = .ok (.iload 4, 2) := by decide +kernel
theorem dX10_bestPair_10 : decode cX10_bestPair 10 = .ok (.sipush 256, 3) := by decide +kernel
theorem dX10_bestPair_13 : decode cX10_bestPair 13 = .ok (.if_icmp .ge 70, 3) := by decide +kernel
theorem dX10_bestPair_16 : decode cX10_bestPair 16 = .ok (.aload_n 0, 1) := by decide +kernel
theorem dX10_bestPair_17 : decode cX10_bestPair 17 = .ok (.iload 4, 2) := by decide +kernel
theorem dX10_bestPair_19 : decode cX10_bestPair 19 = .ok (.invokevirtual 170, 3) := by decide +kernel
theorem dX10_bestPair_22 : decode cX10_bestPair 22 = .ok (.ifCond .eq 55, 3) := by decide +kernel
theorem dX10_bestPair_25 : decode cX10_bestPair 25 = .ok (.aload_n 0, 1) := by decide +kernel
theorem dX10_bestPair_26 : decode cX10_bestPair 26 = .ok (.iconst 0, 1) := by decide +kernel
theorem dX10_bestPair_27 : decode cX10_bestPair 27 = .ok (.iload 4, 2) := by decide +kernel
theorem dX10_bestPair_29 : decode cX10_bestPair 29 = .ok (.invokevirtual 173, 3) := by decide +kernel
theorem dX10_bestPair_32 : decode cX10_bestPair 32 = .ok (.aload_n 0, 1) := by decide +kernel
theorem dX10_bestPair_33 : decode cX10_bestPair 33 = .ok (.iload_n 1, 1) := by decide +kernel
theorem dX10_bestPair_34 : decode cX10_bestPair 34 = .ok (.invokevirtual 180, 3) := by decide +kernel
theorem dX10_bestPair_37 : decode cX10_bestPair 37 = .ok (.ifCond .eq 11, 3) := by decide +kernel
theorem dX10_bestPair_40 : decode cX10_bestPair 40 = .ok (.aload_n 0, 1) := by decide +kernel
theorem dX10_bestPair_41 : decode cX10_bestPair 41 = .ok (.iconst 0, 1) := by decide +kernel
theorem dX10_bestPair_42 : decode cX10_bestPair 42 = .ok (.invokevirtual 198, 3) := by decide +kernel
theorem dX10_bestPair_45 : decode cX10_bestPair 45 = .ok (.goto 4, 3) := by decide +kernel
theorem dX10_bestPair_48 : decode cX10_bestPair 48 = .ok (.iconst 0, 1) := by decide +kernel
theorem dX10_bestPair_49 : decode cX10_bestPair 49 = .ok (.istore 5, 2) := by decide +kernel
theorem dX10_bestPair_51 : decode cX10_bestPair 51 = .ok (.iload 5, 2) := by decide +kernel
theorem dX10_bestPair_53 : decode cX10_bestPair 53 = .ok (.iload_n 3, 1) := by decide +kernel
theorem dX10_bestPair_54 : decode cX10_bestPair 54 = .ok (.if_icmp .le 8, 3) := by decide +kernel
theorem dX10_bestPair_57 : decode cX10_bestPair 57 = .ok (.iload 4, 2) := by decide +kernel
theorem dX10_bestPair_59 : decode cX10_bestPair 59 = .ok (.goto 4, 3) := by decide +kernel
theorem dX10_bestPair_62 : decode cX10_bestPair 62 = .ok (.iload_n 2, 1) := by decide +kernel
theorem dX10_bestPair_63 : decode cX10_bestPair 63 = .ok (.istore_n 2, 1) := by decide +kernel
theorem dX10_bestPair_64 : decode cX10_bestPair 64 = .ok (.iload 5, 2) := by decide +kernel
theorem dX10_bestPair_66 : decode cX10_bestPair 66 = .ok (.iload_n 3, 1) := by decide +kernel
theorem dX10_bestPair_67 : decode cX10_bestPair 67 = .ok (.if_icmp .le 8, 3) := by decide +kernel
theorem dX10_bestPair_70 : decode cX10_bestPair 70 = .ok (.iload 5, 2) := by decide +kernel
theorem dX10_bestPair_72 : decode cX10_bestPair 72 = .ok (.goto 4, 3) := by decide +kernel
theorem dX10_bestPair_75 : decode cX10_bestPair 75 = .ok (.iload_n 3, 1) := by decide +kernel
theorem dX10_bestPair_76 : decode cX10_bestPair 76 = .ok (.istore_n 3, 1) := by decide +kernel
theorem dX10_bestPair_77 : decode cX10_bestPair 77 = .ok (.iinc 4 1, 3) := by decide +kernel
theorem dX10_bestPair_80 : decode cX10_bestPair 80 = .ok (.goto (-72), 3) := by decide +kernel
theorem dX10_bestPair_83 : decode cX10_bestPair 83 = .ok (.iload_n 2, 1) := by decide +kernel
theorem dX10_bestPair_84 : decode cX10_bestPair 84 = .ok (.ireturn, 1) := by decide +kernel
set_option maxRecDepth 20000 in
theorem ggX10_packed_X10_in : GoodIn wsX10_packed wsX10_in := goodIn_r _ [6] (by decide +kernel) (by decide +kernel)
set_option maxRecDepth 20000 in
theorem gX10_packed_X10_in : GoodIn wsX10_packed (va_wsS RX10 76 yX10_in wsX10_in) := goodIn_app (goodIn_of _ (by decide +kernel)) ggX10_packed_X10_in
set_option maxRecDepth 20000 in
theorem ggX10_packed_X10_bestPair : GoodIn wsX10_packed wsX10_bestPair := goodIn_r _ [10, 11, 12, 13, 5, 14, 15, 16, 3, 4, 6, 17, 18, 19, 20, 21, 22, 23, 24, 25, 26, 27, 28, 29, 30, 31, 32, 33, 34, 35, 36, 37, 38, 39, 40, 41, 42, 43, 44, 45, 46, 47, 2, 48, 49, 50, 51, 52, 53, 54, 55, 56, 57, 58, 59, 60, 61, 62, 63, 64, 65, 66, 67, 68, 69, 70, 71, 72, 73, 74, 75, 76, 77, 78, 79, 80, 81, 82, 83, 84, 85, 86] (by decide +kernel) (by decide +kernel)
set_option maxRecDepth 20000 in
theorem gX10_packed_X10_bestPair : GoodIn wsX10_packed (wsV RX10 202 RX10 yX10_bestPair wsX10_bestPair) := goodIn_app (goodIn_of _ (by decide +kernel)) ggX10_packed_X10_bestPair
set_option maxRecDepth 20000 in
theorem ggX10_packed_X10_findPair : GoodIn wsX10_packed wsX10_findPair := goodIn_r _ [20, 16, 21, 22, 23, 24, 25, 26, 27, 28, 29, 5, 30, 31, 32, 33, 34, 35, 36, 56, 57, 58, 59, 60, 61, 62, 63, 64, 65, 66, 67, 68, 69, 70, 71, 72, 73, 74, 75, 76, 77, 78, 79, 80, 81, 82, 83, 84, 85, 86] (by decide +kernel) (by decide +kernel)
set_option maxRecDepth 20000 in
theorem gX10_packed_X10_findPair : GoodIn wsX10_packed (wsV RX10 173 RX10 yX10_findPair wsX10_findPair) := goodIn_app (goodIn_of _ (by decide +kernel)) ggX10_packed_X10_findPair
set_option maxRecDepth 20000 in
theorem ggX10_packed_X10_addsOn : GoodIn wsX10_packed wsX10_addsOn := goodIn_r _ [45, 46, 22, 47, 2, 48, 49, 50, 51, 5, 52, 21, 24, 25, 27, 26, 23, 53, 54, 55, 56, 57, 58, 59, 60, 61, 62, 63, 64, 65, 66, 67, 68, 69, 70, 71, 72, 73, 74, 75, 76, 77, 78, 79, 80, 81, 82, 83, 84, 85, 86] (by decide +kernel) (by decide +kernel)
set_option maxRecDepth 20000 in
theorem gX10_packed_X10_addsOn : GoodIn wsX10_packed (wsV RX10 198 RX10 yX10_addsOn wsX10_addsOn) := goodIn_app (goodIn_of _ (by decide +kernel)) ggX10_packed_X10_addsOn
theorem dX10_packed_0 : decode cX10_packed 0 = .ok (.iload_n 1, 1) := by decide +kernel
theorem dX10_packed_1 : decode cX10_packed 1 = .ok (.i2l, 1) := by decide +kernel
theorem dX10_packed_2 : decode cX10_packed 2 = .ok (.lconst 0, 1) := by decide +kernel
theorem dX10_packed_3 : decode cX10_packed 3 = .ok (.ldc2_w 183, 3) := by decide +kernel
theorem dX10_packed_6 : decode cX10_packed 6 = .ok (.invokestatic 76, 3) := by decide +kernel
theorem dX10_packed_9 : decode cX10_packed 9 = .ok (.ifCond .eq 8, 3) := by decide +kernel
theorem dX10_packed_12 : decode cX10_packed 12 = .ok (.iload_n 2, 1) := by decide +kernel
theorem dX10_packed_13 : decode cX10_packed 13 = .ok (.iconst (-1), 1) := by decide +kernel
theorem dX10_packed_14 : decode cX10_packed 14 = .ok (.if_icmp .ge 6, 3) := by decide +kernel
theorem dX10_packed_17 : decode cX10_packed 17 = .ok (.bipush (-2), 2) := by decide +kernel
theorem dX10_packed_19 : decode cX10_packed 19 = .ok (.ireturn, 1) := by decide +kernel
theorem dX10_packed_20 : decode cX10_packed 20 = .ok (.iconst 0, 1) := by decide +kernel
theorem dX10_packed_21 : decode cX10_packed 21 = .ok (.istore_n 3, 1) := by decide +kernel
theorem dX10_packed_22 : decode cX10_packed 22 = .ok (.iload_n 3, 1) := by decide +kernel
theorem dX10_packed_23 : decode cX10_packed 23 = .ok (.sipush 128, 3) := by decide +kernel
theorem dX10_packed_26 : decode cX10_packed 26 = .ok (.if_icmp .ge 16, 3) := by decide +kernel
theorem dX10_packed_29 : decode cX10_packed 29 = .ok (.aload_n 0, 1) := by decide +kernel
theorem dX10_packed_30 : decode cX10_packed 30 = .ok (.getfield 49, 3) := by decide +kernel
theorem dX10_packed_33 : decode cX10_packed 33 = .ok (.iload_n 3, 1) := by decide +kernel
theorem dX10_packed_34 : decode cX10_packed 34 = .ok (.iconst 0, 1) := by decide +kernel
theorem dX10_packed_35 : decode cX10_packed 35 = .ok (.iastore, 1) := by decide +kernel
theorem dX10_packed_36 : decode cX10_packed 36 = .ok (.iinc 3 1, 3) := by decide +kernel
theorem dX10_packed_39 : decode cX10_packed 39 = .ok (.goto (-17), 3) := by decide +kernel
theorem dX10_packed_42 : decode cX10_packed 42 = .ok (.iconst 0, 1) := by decide +kernel
theorem dX10_packed_43 : decode cX10_packed 43 = .ok (.istore_n 3, 1) := by decide +kernel
theorem dX10_packed_44 : decode cX10_packed 44 = .ok (.aload_n 0, 1) := by decide +kernel
theorem dX10_packed_45 : decode cX10_packed 45 = .ok (.iload_n 1, 1) := by decide +kernel
theorem dX10_packed_46 : decode cX10_packed 46 = .ok (.invokevirtual 202, 3) := by decide +kernel
theorem dX10_packed_49 : decode cX10_packed 49 = .ok (.istore 4, 2) := by decide +kernel
theorem dX10_packed_51 : decode cX10_packed 51 = .ok (.iload 4, 2) := by decide +kernel
theorem dX10_packed_53 : decode cX10_packed 53 = .ok (.bipush (-9), 2) := by decide +kernel
theorem dX10_packed_55 : decode cX10_packed 55 = .ok (.if_icmp .eq 37, 3) := by decide +kernel
theorem dX10_packed_58 : decode cX10_packed 58 = .ok (.iload_n 3, 1) := by decide +kernel
theorem dX10_packed_59 : decode cX10_packed 59 = .ok (.iload_n 2, 1) := by decide +kernel
theorem dX10_packed_60 : decode cX10_packed 60 = .ok (.if_icmp .ne 6, 3) := by decide +kernel
theorem dX10_packed_63 : decode cX10_packed 63 = .ok (.iload 4, 2) := by decide +kernel
theorem dX10_packed_65 : decode cX10_packed 65 = .ok (.ireturn, 1) := by decide +kernel
theorem dX10_packed_66 : decode cX10_packed 66 = .ok (.aload_n 0, 1) := by decide +kernel
theorem dX10_packed_67 : decode cX10_packed 67 = .ok (.iconst 0, 1) := by decide +kernel
theorem dX10_packed_68 : decode cX10_packed 68 = .ok (.iload 4, 2) := by decide +kernel
theorem dX10_packed_70 : decode cX10_packed 70 = .ok (.invokevirtual 173, 3) := by decide +kernel
theorem dX10_packed_73 : decode cX10_packed 73 = .ok (.aload_n 0, 1) := by decide +kernel
theorem dX10_packed_74 : decode cX10_packed 74 = .ok (.iconst 1, 1) := by decide +kernel
theorem dX10_packed_75 : decode cX10_packed 75 = .ok (.invokevirtual 198, 3) := by decide +kernel
theorem dX10_packed_78 : decode cX10_packed 78 = .ok (.pop, 1) := by decide +kernel
theorem dX10_packed_79 : decode cX10_packed 79 = .ok (.iinc 3 1, 3) := by decide +kernel
theorem dX10_packed_82 : decode cX10_packed 82 = .ok (.aload_n 0, 1) := by decide +kernel
theorem dX10_packed_83 : decode cX10_packed 83 = .ok (.iload_n 1, 1) := by decide +kernel
theorem dX10_packed_84 : decode cX10_packed 84 = .ok (.invokevirtual 202, 3) := by decide +kernel
theorem dX10_packed_87 : decode cX10_packed 87 = .ok (.istore 4, 2) := by decide +kernel
theorem dX10_packed_89 : decode cX10_packed 89 = .ok (.goto (-38), 3) := by decide +kernel
theorem dX10_packed_92 : decode cX10_packed 92 = .ok (.iload_n 2, 1) := by decide +kernel
theorem dX10_packed_93 : decode cX10_packed 93 = .ok (.iconst (-1), 1) := by decide +kernel
theorem dX10_packed_94 : decode cX10_packed 94 = .ok (.if_icmp .ne 7, 3) := by decide +kernel
theorem dX10_packed_97 : decode cX10_packed 97 = .ok (.iload_n 3, 1) := by decide +kernel
theorem dX10_packed_98 : decode cX10_packed 98 = .ok (.goto 5, 3) := by decide +kernel
theorem dX10_packed_101 : decode cX10_packed 101 = .ok (.bipush (-9), 2) := by decide +kernel
theorem dX10_packed_103 : decode cX10_packed 103 = .ok (.ireturn, 1) := by decide +kernel
theorem dX10_waveAt_0 : decode cX10_waveAt 0 = .ok (.iload_n 2, 1) := by decide +kernel
theorem dX10_waveAt_1 : decode cX10_waveAt 1 = .ok (.ifCond .ge 12, 3) := by decide +kernel
theorem dX10_waveAt_4 : decode cX10_waveAt 4 = .ok (.aload_n 0, 1) := by decide +kernel
theorem dX10_waveAt_5 : decode cX10_waveAt 5 = .ok (.getfield 40, 3) := by decide +kernel
theorem dX10_waveAt_8 : decode cX10_waveAt 8 = .ok (.iload_n 1, 1) := by decide +kernel
theorem dX10_waveAt_9 : decode cX10_waveAt 9 = .ok (.iaload, 1) := by decide +kernel
theorem dX10_waveAt_10 : decode cX10_waveAt 10 = .ok (.goto 14, 3) := by decide +kernel
theorem dX10_waveAt_13 : decode cX10_waveAt 13 = .ok (.aload_n 0, 1) := by decide +kernel
theorem dX10_waveAt_14 : decode cX10_waveAt 14 = .ok (.getfield 52, 3) := by decide +kernel
theorem dX10_waveAt_17 : decode cX10_waveAt 17 = .ok (.bipush 100, 2) := by decide +kernel
theorem dX10_waveAt_19 : decode cX10_waveAt 19 = .ok (.iload_n 1, 1) := by decide +kernel
theorem dX10_waveAt_20 : decode cX10_waveAt 20 = .ok (.imul, 1) := by decide +kernel
theorem dX10_waveAt_21 : decode cX10_waveAt 21 = .ok (.iload_n 2, 1) := by decide +kernel
theorem dX10_waveAt_22 : decode cX10_waveAt 22 = .ok (.iadd, 1) := by decide +kernel
theorem dX10_waveAt_23 : decode cX10_waveAt 23 = .ok (.iaload, 1) := by decide +kernel
theorem dX10_waveAt_24 : decode cX10_waveAt 24 = .ok (.ireturn, 1) := by decide +kernel
set_option maxRecDepth 20000 in
theorem ggX10_findWaves_X10_findPair : GoodIn wsX10_findWaves wsX10_findPair := goodIn_r _ [12, 1, 13, 3, 14, 4, 5, 6, 7, 15, 16, 11, 17, 18, 19, 20, 21, 22, 23, 28, 29, 30, 31, 32, 33, 34, 35, 36, 37, 38, 39, 40, 41, 42, 43, 44, 45, 46, 47, 48, 49, 50, 51, 52, 53, 54, 55, 56, 57, 58] (by decide +kernel) (by decide +kernel)
set_option maxRecDepth 20000 in
theorem gX10_findWaves_X10_findPair : GoodIn wsX10_findWaves (wsV RX10 173 RX10 yX10_findPair wsX10_findPair) := goodIn_app (goodIn_of _ (by decide +kernel)) ggX10_findWaves_X10_findPair
set_option maxRecDepth 20000 in
theorem ggX10_findWaves_X10_waveAt : GoodIn wsX10_findWaves wsX10_waveAt := goodIn_r _ [27, 13, 2, 28, 29, 30, 31, 32, 33, 34, 35, 36, 37, 38, 39, 40, 41, 42, 43, 44, 45, 46, 47, 48, 49, 50, 51, 52, 53, 54, 55, 56, 57, 58] (by decide +kernel) (by decide +kernel)
set_option maxRecDepth 20000 in
theorem gX10_findWaves_X10_waveAt : GoodIn wsX10_findWaves (wsV RX10 205 RX10 yX10_waveAt wsX10_waveAt) := goodIn_app (goodIn_of _ (by decide +kernel)) ggX10_findWaves_X10_waveAt
set_option maxRecDepth 20000 in
theorem ggX10_findWaves_X10_makes : GoodIn wsX10_findWaves wsX10_makes := goodIn_r _ [17] (by decide +kernel) (by decide +kernel)
set_option maxRecDepth 20000 in
theorem gX10_findWaves_X10_makes : GoodIn wsX10_findWaves (va_wsS RX10 163 yX10_makes wsX10_makes) := goodIn_app (goodIn_of _ (by decide +kernel)) ggX10_findWaves_X10_makes
theorem dX10_findWaves_0 : decode cX10_findWaves 0 = .ok (.aload_n 0, 1) := by decide +kernel
theorem dX10_findWaves_1 : decode cX10_findWaves 1 = .ok (.iload_n 1, 1) := by decide +kernel
theorem dX10_findWaves_2 : decode cX10_findWaves 2 = .ok (.iload_n 2, 1) := by decide +kernel
theorem dX10_findWaves_3 : decode cX10_findWaves 3 = .ok (.invokevirtual 173, 3) := by decide +kernel
theorem dX10_findWaves_6 : decode cX10_findWaves 6 = .ok (.iconst 0, 1) := by decide +kernel
theorem dX10_findWaves_7 : decode cX10_findWaves 7 = .ok (.istore_n 3, 1) := by decide +kernel
theorem dX10_findWaves_8 : decode cX10_findWaves 8 = .ok (.iload_n 3, 1) := by decide +kernel
theorem dX10_findWaves_9 : decode cX10_findWaves 9 = .ok (.bipush 100, 2) := by decide +kernel
theorem dX10_findWaves_11 : decode cX10_findWaves 11 = .ok (.if_icmp .ge 166, 3) := by decide +kernel
theorem dX10_findWaves_14 : decode cX10_findWaves 14 = .ok (.iconst 0, 1) := by decide +kernel
theorem dX10_findWaves_15 : decode cX10_findWaves 15 = .ok (.istore 4, 2) := by decide +kernel
theorem dX10_findWaves_17 : decode cX10_findWaves 17 = .ok (.iload 4, 2) := by decide +kernel
theorem dX10_findWaves_19 : decode cX10_findWaves 19 = .ok (.aload_n 0, 1) := by decide +kernel
theorem dX10_findWaves_20 : decode cX10_findWaves 20 = .ok (.getfield 112, 3) := by decide +kernel
theorem dX10_findWaves_23 : decode cX10_findWaves 23 = .ok (.if_icmp .ge 28, 3) := by decide +kernel
theorem dX10_findWaves_26 : decode cX10_findWaves 26 = .ok (.aload_n 0, 1) := by decide +kernel
theorem dX10_findWaves_27 : decode cX10_findWaves 27 = .ok (.getfield 52, 3) := by decide +kernel
theorem dX10_findWaves_30 : decode cX10_findWaves 30 = .ok (.bipush 100, 2) := by decide +kernel
theorem dX10_findWaves_32 : decode cX10_findWaves 32 = .ok (.iload 4, 2) := by decide +kernel
theorem dX10_findWaves_34 : decode cX10_findWaves 34 = .ok (.imul, 1) := by decide +kernel
theorem dX10_findWaves_35 : decode cX10_findWaves 35 = .ok (.iload_n 3, 1) := by decide +kernel
theorem dX10_findWaves_36 : decode cX10_findWaves 36 = .ok (.iadd, 1) := by decide +kernel
theorem dX10_findWaves_37 : decode cX10_findWaves 37 = .ok (.aload_n 0, 1) := by decide +kernel
theorem dX10_findWaves_38 : decode cX10_findWaves 38 = .ok (.getfield 43, 3) := by decide +kernel
theorem dX10_findWaves_41 : decode cX10_findWaves 41 = .ok (.iload 4, 2) := by decide +kernel
theorem dX10_findWaves_43 : decode cX10_findWaves 43 = .ok (.iaload, 1) := by decide +kernel
theorem dX10_findWaves_44 : decode cX10_findWaves 44 = .ok (.iastore, 1) := by decide +kernel
theorem dX10_findWaves_45 : decode cX10_findWaves 45 = .ok (.iinc 4 1, 3) := by decide +kernel
theorem dX10_findWaves_48 : decode cX10_findWaves 48 = .ok (.goto (-31), 3) := by decide +kernel
theorem dX10_findWaves_51 : decode cX10_findWaves 51 = .ok (.iconst 0, 1) := by decide +kernel
theorem dX10_findWaves_52 : decode cX10_findWaves 52 = .ok (.istore 4, 2) := by decide +kernel
theorem dX10_findWaves_54 : decode cX10_findWaves 54 = .ok (.iload 4, 2) := by decide +kernel
theorem dX10_findWaves_56 : decode cX10_findWaves 56 = .ok (.aload_n 0, 1) := by decide +kernel
theorem dX10_findWaves_57 : decode cX10_findWaves 57 = .ok (.getfield 115, 3) := by decide +kernel
theorem dX10_findWaves_60 : decode cX10_findWaves 60 = .ok (.if_icmp .ge 111, 3) := by decide +kernel
theorem dX10_findWaves_63 : decode cX10_findWaves 63 = .ok (.iload_n 3, 1) := by decide +kernel
theorem dX10_findWaves_64 : decode cX10_findWaves 64 = .ok (.aload_n 0, 1) := by decide +kernel
theorem dX10_findWaves_65 : decode cX10_findWaves 65 = .ok (.getfield 7, 3) := by decide +kernel
theorem dX10_findWaves_68 : decode cX10_findWaves 68 = .ok (.bipush 16, 2) := by decide +kernel
theorem dX10_findWaves_70 : decode cX10_findWaves 70 = .ok (.iload_n 1, 1) := by decide +kernel
theorem dX10_findWaves_71 : decode cX10_findWaves 71 = .ok (.imul, 1) := by decide +kernel
theorem dX10_findWaves_72 : decode cX10_findWaves 72 = .ok (.bipush 8, 2) := by decide +kernel
theorem dX10_findWaves_74 : decode cX10_findWaves 74 = .ok (.iadd, 1) := by decide +kernel
theorem dX10_findWaves_75 : decode cX10_findWaves 75 = .ok (.iload 4, 2) := by decide +kernel
theorem dX10_findWaves_77 : decode cX10_findWaves 77 = .ok (.iadd, 1) := by decide +kernel
theorem dX10_findWaves_78 : decode cX10_findWaves 78 = .ok (.iaload, 1) := by decide +kernel
theorem dX10_findWaves_79 : decode cX10_findWaves 79 = .ok (.isub, 1) := by decide +kernel
theorem dX10_findWaves_80 : decode cX10_findWaves 80 = .ok (.istore 5, 2) := by decide +kernel
theorem dX10_findWaves_82 : decode cX10_findWaves 82 = .ok (.aload_n 0, 1) := by decide +kernel
theorem dX10_findWaves_83 : decode cX10_findWaves 83 = .ok (.getfield 16, 3) := by decide +kernel
theorem dX10_findWaves_86 : decode cX10_findWaves 86 = .ok (.iload 4, 2) := by decide +kernel
theorem dX10_findWaves_88 : decode cX10_findWaves 88 = .ok (.iaload, 1) := by decide +kernel
theorem dX10_findWaves_89 : decode cX10_findWaves 89 = .ok (.bipush (-9), 2) := by decide +kernel
theorem dX10_findWaves_91 : decode cX10_findWaves 91 = .ok (.if_icmp .ne 13, 3) := by decide +kernel
theorem dX10_findWaves_94 : decode cX10_findWaves 94 = .ok (.aload_n 0, 1) := by decide +kernel
theorem dX10_findWaves_95 : decode cX10_findWaves 95 = .ok (.getfield 13, 3) := by decide +kernel
theorem dX10_findWaves_98 : decode cX10_findWaves 98 = .ok (.iload 4, 2) := by decide +kernel
theorem dX10_findWaves_100 : decode cX10_findWaves 100 = .ok (.iaload, 1) := by decide +kernel
theorem dX10_findWaves_101 : decode cX10_findWaves 101 = .ok (.goto 10, 3) := by decide +kernel
theorem dX10_findWaves_104 : decode cX10_findWaves 104 = .ok (.aload_n 0, 1) := by decide +kernel
theorem dX10_findWaves_105 : decode cX10_findWaves 105 = .ok (.getfield 16, 3) := by decide +kernel
theorem dX10_findWaves_108 : decode cX10_findWaves 108 = .ok (.iload 4, 2) := by decide +kernel
theorem dX10_findWaves_110 : decode cX10_findWaves 110 = .ok (.iaload, 1) := by decide +kernel
theorem dX10_findWaves_111 : decode cX10_findWaves 111 = .ok (.istore 6, 2) := by decide +kernel
theorem dX10_findWaves_113 : decode cX10_findWaves 113 = .ok (.aload_n 0, 1) := by decide +kernel
theorem dX10_findWaves_114 : decode cX10_findWaves 114 = .ok (.getfield 52, 3) := by decide +kernel
theorem dX10_findWaves_117 : decode cX10_findWaves 117 = .ok (.bipush 100, 2) := by decide +kernel
theorem dX10_findWaves_119 : decode cX10_findWaves 119 = .ok (.iconst 4, 1) := by decide +kernel
theorem dX10_findWaves_120 : decode cX10_findWaves 120 = .ok (.iload 4, 2) := by decide +kernel
theorem dX10_findWaves_122 : decode cX10_findWaves 122 = .ok (.iadd, 1) := by decide +kernel
theorem dX10_findWaves_123 : decode cX10_findWaves 123 = .ok (.imul, 1) := by decide +kernel
theorem dX10_findWaves_124 : decode cX10_findWaves 124 = .ok (.iload_n 3, 1) := by decide +kernel
theorem dX10_findWaves_125 : decode cX10_findWaves 125 = .ok (.iadd, 1) := by decide +kernel
theorem dX10_findWaves_126 : decode cX10_findWaves 126 = .ok (.aload_n 0, 1) := by decide +kernel
theorem dX10_findWaves_127 : decode cX10_findWaves 127 = .ok (.getfield 7, 3) := by decide +kernel
theorem dX10_findWaves_130 : decode cX10_findWaves 130 = .ok (.bipush 16, 2) := by decide +kernel
theorem dX10_findWaves_132 : decode cX10_findWaves 132 = .ok (.iload_n 1, 1) := by decide +kernel
theorem dX10_findWaves_133 : decode cX10_findWaves 133 = .ok (.imul, 1) := by decide +kernel
theorem dX10_findWaves_134 : decode cX10_findWaves 134 = .ok (.iconst 0, 1) := by decide +kernel
theorem dX10_findWaves_135 : decode cX10_findWaves 135 = .ok (.iadd, 1) := by decide +kernel
theorem dX10_findWaves_136 : decode cX10_findWaves 136 = .ok (.iload 4, 2) := by decide +kernel
theorem dX10_findWaves_138 : decode cX10_findWaves 138 = .ok (.iadd, 1) := by decide +kernel
theorem dX10_findWaves_139 : decode cX10_findWaves 139 = .ok (.iaload, 1) := by decide +kernel
theorem dX10_findWaves_140 : decode cX10_findWaves 140 = .ok (.aload_n 0, 1) := by decide +kernel
theorem dX10_findWaves_141 : decode cX10_findWaves 141 = .ok (.aload_n 0, 1) := by decide +kernel
theorem dX10_findWaves_142 : decode cX10_findWaves 142 = .ok (.getfield 13, 3) := by decide +kernel
theorem dX10_findWaves_145 : decode cX10_findWaves 145 = .ok (.iload 4, 2) := by decide +kernel
theorem dX10_findWaves_147 : decode cX10_findWaves 147 = .ok (.iaload, 1) := by decide +kernel
theorem dX10_findWaves_148 : decode cX10_findWaves 148 = .ok (.iload 5, 2) := by decide +kernel
theorem dX10_findWaves_150 : decode cX10_findWaves 150 = .ok (.invokevirtual 205, 3) := by decide +kernel
theorem dX10_findWaves_153 : decode cX10_findWaves 153 = .ok (.aload_n 0, 1) := by decide +kernel
theorem dX10_findWaves_154 : decode cX10_findWaves 154 = .ok (.iload 6, 2) := by decide +kernel
theorem dX10_findWaves_156 : decode cX10_findWaves 156 = .ok (.iload 5, 2) := by decide +kernel
theorem dX10_findWaves_158 : decode cX10_findWaves 158 = .ok (.invokevirtual 205, 3) := by decide +kernel
theorem dX10_findWaves_161 : decode cX10_findWaves 161 = .ok (.invokestatic 163, 3) := by decide +kernel
theorem dX10_findWaves_164 : decode cX10_findWaves 164 = .ok (.iastore, 1) := by decide +kernel
theorem dX10_findWaves_165 : decode cX10_findWaves 165 = .ok (.iinc 4 1, 3) := by decide +kernel
theorem dX10_findWaves_168 : decode cX10_findWaves 168 = .ok (.goto (-114), 3) := by decide +kernel
theorem dX10_findWaves_171 : decode cX10_findWaves 171 = .ok (.iinc 3 1, 3) := by decide +kernel
theorem dX10_findWaves_174 : decode cX10_findWaves 174 = .ok (.goto (-166), 3) := by decide +kernel
theorem dX10_findWaves_177 : decode cX10_findWaves 177 = .ok (.return_, 1) := by decide +kernel
set_option maxRecDepth 20000 in
theorem ggX10_wave_X10_isGate : GoodIn wsX10_wave wsX10_isGate := goodIn_r _ [6, 7, 8, 9, 5, 10, 45, 46, 47, 48, 49, 50, 51, 52, 53, 54, 55, 56, 57, 58, 59, 60, 61, 62, 63, 64, 65, 66, 67, 68, 69, 70, 71, 72, 73, 74, 75] (by decide +kernel) (by decide +kernel)
set_option maxRecDepth 20000 in
theorem gX10_wave_X10_isGate : GoodIn wsX10_wave (wsV RX10 127 RX10 yX10_isGate wsX10_isGate) := goodIn_app (goodIn_of _ (by decide +kernel)) ggX10_wave_X10_isGate
set_option maxRecDepth 20000 in
theorem ggX10_wave_X10_isPair : GoodIn wsX10_wave wsX10_isPair := goodIn_r _ [14, 15, 16, 8, 9, 5, 10, 45, 46, 47, 48, 49, 50, 51, 52, 53, 54, 55, 56, 57, 58, 59, 60, 61, 62, 63, 64, 65, 66, 67, 68, 69, 70, 71, 72, 73, 74, 75] (by decide +kernel) (by decide +kernel)
set_option maxRecDepth 20000 in
theorem gX10_wave_X10_isPair : GoodIn wsX10_wave (wsV RX10 170 RX10 yX10_isPair wsX10_isPair) := goodIn_app (goodIn_of _ (by decide +kernel)) ggX10_wave_X10_isPair
set_option maxRecDepth 20000 in
theorem ggX10_wave_X10_in : GoodIn wsX10_wave wsX10_in := goodIn_r _ [10] (by decide +kernel) (by decide +kernel)
set_option maxRecDepth 20000 in
theorem gX10_wave_X10_in : GoodIn wsX10_wave (va_wsS RX10 76 yX10_in wsX10_in) := goodIn_app (goodIn_of _ (by decide +kernel)) ggX10_wave_X10_in
set_option maxRecDepth 20000 in
theorem ggX10_wave_X10_findWaves : GoodIn wsX10_wave wsX10_findWaves := goodIn_r _ [20, 16, 21, 22, 7, 23, 24, 25, 26, 27, 28, 5, 29, 30, 31, 32, 33, 34, 35, 36, 37, 38, 39, 40, 41, 42, 43, 44, 45, 46, 47, 48, 49, 50, 51, 52, 53, 54, 55, 56, 57, 58, 59, 60, 61, 62, 63, 64, 65, 66, 67, 68, 69, 70, 71, 72, 73, 74, 75] (by decide +kernel) (by decide +kernel)
set_option maxRecDepth 20000 in
theorem gX10_wave_X10_findWaves : GoodIn wsX10_wave (wsV RX10 210 RX10 yX10_findWaves wsX10_findWaves) := goodIn_app (goodIn_of _ (by decide +kernel)) ggX10_wave_X10_findWaves
set_option maxRecDepth 20000 in
theorem ggX10_wave_X10_waveAt : GoodIn wsX10_wave wsX10_waveAt := goodIn_r _ [44, 30, 21, 45, 46, 47, 48, 49, 50, 51, 52, 53, 54, 55, 56, 57, 58, 59, 60, 61, 62, 63, 64, 65, 66, 67, 68, 69, 70, 71, 72, 73, 74, 75] (by decide +kernel) (by decide +kernel)
set_option maxRecDepth 20000 in
theorem gX10_wave_X10_waveAt : GoodIn wsX10_wave (wsV RX10 205 RX10 yX10_waveAt wsX10_waveAt) := goodIn_app (goodIn_of _ (by decide +kernel)) ggX10_wave_X10_waveAt
theorem dX10_wave_0 : decode cX10_wave 0 = .ok (.aload_n 0, 1) := by decide +kernel
theorem dX10_wave_1 : decode cX10_wave 1 = .ok (.iload_n 1, 1) := by decide +kernel
theorem dX10_wave_2 : decode cX10_wave 2 = .ok (.invokevirtual 127, 3) := by decide +kernel
theorem dX10_wave_5 : decode cX10_wave 5 = .ok (.ifCond .ne 5, 3) := by decide +kernel
theorem dX10_wave_8 : decode cX10_wave 8 = .ok (.iconst (-1), 1) := by decide +kernel
theorem dX10_wave_9 : decode cX10_wave 9 = .ok (.ireturn, 1) := by decide +kernel
theorem dX10_wave_10 : decode cX10_wave 10 = .ok (.aload_n 0, 1) := by decide +kernel
theorem dX10_wave_11 : decode cX10_wave 11 = .ok (.iload_n 2, 1) := by decide +kernel
theorem dX10_wave_12 : decode cX10_wave 12 = .ok (.invokevirtual 170, 3) := by decide +kernel
theorem dX10_wave_15 : decode cX10_wave 15 = .ok (.ifCond .eq 15, 3) := by decide +kernel
theorem dX10_wave_18 : decode cX10_wave 18 = .ok (.iload_n 3, 1) := by decide +kernel
theorem dX10_wave_19 : decode cX10_wave 19 = .ok (.i2l, 1) := by decide +kernel
theorem dX10_wave_20 : decode cX10_wave 20 = .ok (.lconst 0, 1) := by decide +kernel
theorem dX10_wave_21 : decode cX10_wave 21 = .ok (.ldc2_w 208, 3) := by decide +kernel
theorem dX10_wave_24 : decode cX10_wave 24 = .ok (.invokestatic 76, 3) := by decide +kernel
theorem dX10_wave_27 : decode cX10_wave 27 = .ok (.ifCond .ne 6, 3) := by decide +kernel
theorem dX10_wave_30 : decode cX10_wave 30 = .ok (.bipush (-2), 2) := by decide +kernel
theorem dX10_wave_32 : decode cX10_wave 32 = .ok (.ireturn, 1) := by decide +kernel
theorem dX10_wave_33 : decode cX10_wave 33 = .ok (.aload_n 0, 1) := by decide +kernel
theorem dX10_wave_34 : decode cX10_wave 34 = .ok (.iconst 0, 1) := by decide +kernel
theorem dX10_wave_35 : decode cX10_wave 35 = .ok (.iload_n 2, 1) := by decide +kernel
theorem dX10_wave_36 : decode cX10_wave 36 = .ok (.invokevirtual 210, 3) := by decide +kernel
theorem dX10_wave_39 : decode cX10_wave 39 = .ok (.aload_n 0, 1) := by decide +kernel
theorem dX10_wave_40 : decode cX10_wave 40 = .ok (.iconst 4, 1) := by decide +kernel
theorem dX10_wave_41 : decode cX10_wave 41 = .ok (.iload_n 1, 1) := by decide +kernel
theorem dX10_wave_42 : decode cX10_wave 42 = .ok (.iadd, 1) := by decide +kernel
theorem dX10_wave_43 : decode cX10_wave 43 = .ok (.iload_n 3, 1) := by decide +kernel
theorem dX10_wave_44 : decode cX10_wave 44 = .ok (.invokevirtual 205, 3) := by decide +kernel
theorem dX10_wave_47 : decode cX10_wave 47 = .ok (.ireturn, 1) := by decide +kernel
set_option maxRecDepth 20000 in
theorem ggX10_isLate_X10_findWaves : GoodIn wsX10_isLate wsX10_findWaves := goodIn_r _ [7, 8, 9, 2, 1, 10, 11, 12, 13, 14, 15, 6, 16, 17, 18, 19, 20, 21, 22, 23, 24, 25, 26, 27, 28, 29, 30, 31, 32, 33, 34, 35, 36, 37, 38, 39, 40, 41, 42, 43, 44, 45, 46, 47, 48, 49, 50, 51, 52, 53, 54, 55, 56, 57, 58, 59, 60, 61, 62] (by decide +kernel) (by decide +kernel)
set_option maxRecDepth 20000 in
theorem gX10_isLate_X10_findWaves : GoodIn wsX10_isLate (wsV RX10 210 RX10 yX10_findWaves wsX10_findWaves) := goodIn_app (goodIn_of _ (by decide +kernel)) ggX10_isLate_X10_findWaves
set_option maxRecDepth 20000 in
theorem ggX10_isLate_X10_waveAt : GoodIn wsX10_isLate wsX10_waveAt := goodIn_r _ [31, 17, 9, 32, 33, 34, 35, 36, 37, 38, 39, 40, 41, 42, 43, 44, 45, 46, 47, 48, 49, 50, 51, 52, 53, 54, 55, 56, 57, 58, 59, 60, 61, 62] (by decide +kernel) (by decide +kernel)
set_option maxRecDepth 20000 in
theorem gX10_isLate_X10_waveAt : GoodIn wsX10_isLate (wsV RX10 205 RX10 yX10_waveAt wsX10_waveAt) := goodIn_app (goodIn_of _ (by decide +kernel)) ggX10_isLate_X10_waveAt
theorem dX10_isLate_0 : decode cX10_isLate 0 = .ok (.aload_n 0, 1) := by decide +kernel
theorem dX10_isLate_1 : decode cX10_isLate 1 = .ok (.iload_n 1, 1) := by decide +kernel
theorem dX10_isLate_2 : decode cX10_isLate 2 = .ok (.iload_n 2, 1) := by decide +kernel
theorem dX10_isLate_3 : decode cX10_isLate 3 = .ok (.invokevirtual 210, 3) := by decide +kernel
theorem dX10_isLate_6 : decode cX10_isLate 6 = .ok (.iconst 4, 1) := by decide +kernel
theorem dX10_isLate_7 : decode cX10_isLate 7 = .ok (.aload_n 0, 1) := by decide +kernel
theorem dX10_isLate_8 : decode cX10_isLate 8 = .ok (.getfield 115, 3) := by decide +kernel
theorem dX10_isLate_11 : decode cX10_isLate 11 = .ok (.iadd, 1) := by decide +kernel
theorem dX10_isLate_12 : decode cX10_isLate 12 = .ok (.iconst 1, 1) := by decide +kernel
theorem dX10_isLate_13 : decode cX10_isLate 13 = .ok (.isub, 1) := by decide +kernel
theorem dX10_isLate_14 : decode cX10_isLate 14 = .ok (.istore 4, 2) := by decide +kernel
theorem dX10_isLate_16 : decode cX10_isLate 16 = .ok (.aload_n 0, 1) := by decide +kernel
theorem dX10_isLate_17 : decode cX10_isLate 17 = .ok (.iload 4, 2) := by decide +kernel
theorem dX10_isLate_19 : decode cX10_isLate 19 = .ok (.iload_n 3, 1) := by decide +kernel
theorem dX10_isLate_20 : decode cX10_isLate 20 = .ok (.invokevirtual 205, 3) := by decide +kernel
theorem dX10_isLate_23 : decode cX10_isLate 23 = .ok (.aload_n 0, 1) := by decide +kernel
theorem dX10_isLate_24 : decode cX10_isLate 24 = .ok (.getfield 43, 3) := by decide +kernel
theorem dX10_isLate_27 : decode cX10_isLate 27 = .ok (.iload 4, 2) := by decide +kernel
theorem dX10_isLate_29 : decode cX10_isLate 29 = .ok (.iaload, 1) := by decide +kernel
theorem dX10_isLate_30 : decode cX10_isLate 30 = .ok (.if_icmp .eq 7, 3) := by decide +kernel
theorem dX10_isLate_33 : decode cX10_isLate 33 = .ok (.iconst 1, 1) := by decide +kernel
theorem dX10_isLate_34 : decode cX10_isLate 34 = .ok (.goto 4, 3) := by decide +kernel
theorem dX10_isLate_37 : decode cX10_isLate 37 = .ok (.iconst 0, 1) := by decide +kernel
theorem dX10_isLate_38 : decode cX10_isLate 38 = .ok (.ireturn, 1) := by decide +kernel
set_option maxRecDepth 20000 in
theorem ggX10_late_X10_isPair : GoodIn wsX10_late wsX10_isPair := goodIn_r _ [7, 8, 9, 10, 11, 6, 12, 45, 46, 47, 48, 49, 50, 51, 52, 53, 54, 55, 56, 57, 58, 59, 60, 61, 62, 63, 64, 65, 66, 67, 68, 69, 70, 71, 72, 73, 74, 75] (by decide +kernel) (by decide +kernel)
set_option maxRecDepth 20000 in
theorem gX10_late_X10_isPair : GoodIn wsX10_late (wsV RX10 170 RX10 yX10_isPair wsX10_isPair) := goodIn_app (goodIn_of _ (by decide +kernel)) ggX10_late_X10_isPair
set_option maxRecDepth 20000 in
theorem ggX10_late_X10_in : GoodIn wsX10_late wsX10_in := goodIn_r _ [12] (by decide +kernel) (by decide +kernel)
set_option maxRecDepth 20000 in
theorem gX10_late_X10_in : GoodIn wsX10_late (va_wsS RX10 76 yX10_in wsX10_in) := goodIn_app (goodIn_of _ (by decide +kernel)) ggX10_late_X10_in
set_option maxRecDepth 20000 in
theorem ggX10_late_X10_isLate : GoodIn wsX10_late wsX10_isLate := goodIn_r _ [16, 2, 17, 18, 19, 20, 6, 21, 9, 22, 23, 24, 25, 26, 27, 28, 29, 30, 31, 32, 33, 34, 35, 36, 37, 38, 39, 40, 41, 42, 43, 44, 45, 46, 47, 48, 49, 50, 51, 52, 53, 54, 55, 56, 57, 58, 59, 60, 61, 62, 63, 64, 65, 66, 67, 68, 69, 70, 71, 72, 73, 74, 75] (by decide +kernel) (by decide +kernel)
set_option maxRecDepth 20000 in
theorem gX10_late_X10_isLate : GoodIn wsX10_late (wsV RX10 213 RX10 yX10_isLate wsX10_isLate) := goodIn_app (goodIn_of _ (by decide +kernel)) ggX10_late_X10_isLate
theorem dX10_late_0 : decode cX10_late 0 = .ok (.aload_n 0, 1) := by decide +kernel
theorem dX10_late_1 : decode cX10_late 1 = .ok (.iload_n 1, 1) := by decide +kernel
theorem dX10_late_2 : decode cX10_late 2 = .ok (.invokevirtual 170, 3) := by decide +kernel
theorem dX10_late_5 : decode cX10_late 5 = .ok (.ifCond .eq 15, 3) := by decide +kernel
theorem dX10_late_8 : decode cX10_late 8 = .ok (.iload_n 2, 1) := by decide +kernel
theorem dX10_late_9 : decode cX10_late 9 = .ok (.i2l, 1) := by decide +kernel
theorem dX10_late_10 : decode cX10_late 10 = .ok (.lconst 0, 1) := by decide +kernel
theorem dX10_late_11 : decode cX10_late 11 = .ok (.ldc2_w 208, 3) := by decide +kernel
theorem dX10_late_14 : decode cX10_late 14 = .ok (.invokestatic 76, 3) := by decide +kernel
theorem dX10_late_17 : decode cX10_late 17 = .ok (.ifCond .ne 6, 3) := by decide +kernel
theorem dX10_late_20 : decode cX10_late 20 = .ok (.bipush (-2), 2) := by decide +kernel
theorem dX10_late_22 : decode cX10_late 22 = .ok (.ireturn, 1) := by decide +kernel
theorem dX10_late_23 : decode cX10_late 23 = .ok (.aload_n 0, 1) := by decide +kernel
theorem dX10_late_24 : decode cX10_late 24 = .ok (.getfield 115, 3) := by decide +kernel
theorem dX10_late_27 : decode cX10_late 27 = .ok (.ifCond .ne 6, 3) := by decide +kernel
theorem dX10_late_30 : decode cX10_late 30 = .ok (.bipush (-3), 2) := by decide +kernel
theorem dX10_late_32 : decode cX10_late 32 = .ok (.ireturn, 1) := by decide +kernel
theorem dX10_late_33 : decode cX10_late 33 = .ok (.aload_n 0, 1) := by decide +kernel
theorem dX10_late_34 : decode cX10_late 34 = .ok (.iconst 0, 1) := by decide +kernel
theorem dX10_late_35 : decode cX10_late 35 = .ok (.iload_n 1, 1) := by decide +kernel
theorem dX10_late_36 : decode cX10_late 36 = .ok (.iload_n 2, 1) := by decide +kernel
theorem dX10_late_37 : decode cX10_late 37 = .ok (.invokevirtual 213, 3) := by decide +kernel
theorem dX10_late_40 : decode cX10_late 40 = .ok (.ifCond .eq 7, 3) := by decide +kernel
theorem dX10_late_43 : decode cX10_late 43 = .ok (.iconst 1, 1) := by decide +kernel
theorem dX10_late_44 : decode cX10_late 44 = .ok (.goto 4, 3) := by decide +kernel
theorem dX10_late_47 : decode cX10_late 47 = .ok (.iconst 0, 1) := by decide +kernel
theorem dX10_late_48 : decode cX10_late 48 = .ok (.ireturn, 1) := by decide +kernel
theorem dX10_keepAct_0 : decode cX10_keepAct 0 = .ok (.iconst 0, 1) := by decide +kernel
theorem dX10_keepAct_1 : decode cX10_keepAct 1 = .ok (.istore_n 1, 1) := by decide +kernel
theorem dX10_keepAct_2 : decode cX10_keepAct 2 = .ok (.iload_n 1, 1) := by decide +kernel
theorem dX10_keepAct_3 : decode cX10_keepAct 3 = .ok (.bipush 16, 2) := by decide +kernel
theorem dX10_keepAct_5 : decode cX10_keepAct 5 = .ok (.if_icmp .ge 29, 3) := by decide +kernel
theorem dX10_keepAct_8 : decode cX10_keepAct 8 = .ok (.aload_n 0, 1) := by decide +kernel
theorem dX10_keepAct_9 : decode cX10_keepAct 9 = .ok (.getfield 55, 3) := by decide +kernel
theorem dX10_keepAct_12 : decode cX10_keepAct 12 = .ok (.bipush 16, 2) := by decide +kernel
theorem dX10_keepAct_14 : decode cX10_keepAct 14 = .ok (.aload_n 0, 1) := by decide +kernel
theorem dX10_keepAct_15 : decode cX10_keepAct 15 = .ok (.getfield 217, 3) := by decide +kernel
theorem dX10_keepAct_18 : decode cX10_keepAct 18 = .ok (.imul, 1) := by decide +kernel
theorem dX10_keepAct_19 : decode cX10_keepAct 19 = .ok (.iload_n 1, 1) := by decide +kernel
theorem dX10_keepAct_20 : decode cX10_keepAct 20 = .ok (.iadd, 1) := by decide +kernel
theorem dX10_keepAct_21 : decode cX10_keepAct 21 = .ok (.aload_n 0, 1) := by decide +kernel
theorem dX10_keepAct_22 : decode cX10_keepAct 22 = .ok (.getfield 7, 3) := by decide +kernel
theorem dX10_keepAct_25 : decode cX10_keepAct 25 = .ok (.iload_n 1, 1) := by decide +kernel
theorem dX10_keepAct_26 : decode cX10_keepAct 26 = .ok (.iaload, 1) := by decide +kernel
theorem dX10_keepAct_27 : decode cX10_keepAct 27 = .ok (.iastore, 1) := by decide +kernel
theorem dX10_keepAct_28 : decode cX10_keepAct 28 = .ok (.iinc 1 1, 3) := by decide +kernel
theorem dX10_keepAct_31 : decode cX10_keepAct 31 = .ok (.goto (-29), 3) := by decide +kernel
theorem dX10_keepAct_34 : decode cX10_keepAct 34 = .ok (.aload_n 0, 1) := by decide +kernel
theorem dX10_keepAct_35 : decode cX10_keepAct 35 = .ok (.aload_n 0, 1) := by decide +kernel
theorem dX10_keepAct_36 : decode cX10_keepAct 36 = .ok (.getfield 217, 3) := by decide +kernel
theorem dX10_keepAct_39 : decode cX10_keepAct 39 = .ok (.iconst 1, 1) := by decide +kernel
theorem dX10_keepAct_40 : decode cX10_keepAct 40 = .ok (.iadd, 1) := by decide +kernel
theorem dX10_keepAct_41 : decode cX10_keepAct 41 = .ok (.bipush 14, 2) := by decide +kernel
theorem dX10_keepAct_43 : decode cX10_keepAct 43 = .ok (.irem, 1) := by decide +kernel
theorem dX10_keepAct_44 : decode cX10_keepAct 44 = .ok (.putfield 217, 3) := by decide +kernel
theorem dX10_keepAct_47 : decode cX10_keepAct 47 = .ok (.aload_n 0, 1) := by decide +kernel
theorem dX10_keepAct_48 : decode cX10_keepAct 48 = .ok (.aload_n 0, 1) := by decide +kernel
theorem dX10_keepAct_49 : decode cX10_keepAct 49 = .ok (.getfield 118, 3) := by decide +kernel
theorem dX10_keepAct_52 : decode cX10_keepAct 52 = .ok (.bipush 14, 2) := by decide +kernel
theorem dX10_keepAct_54 : decode cX10_keepAct 54 = .ok (.if_icmp .ge 12, 3) := by decide +kernel
theorem dX10_keepAct_57 : decode cX10_keepAct 57 = .ok (.aload_n 0, 1) := by decide +kernel
theorem dX10_keepAct_58 : decode cX10_keepAct 58 = .ok (.getfield 118, 3) := by decide +kernel
theorem dX10_keepAct_61 : decode cX10_keepAct 61 = .ok (.iconst 1, 1) := by decide +kernel
theorem dX10_keepAct_62 : decode cX10_keepAct 62 = .ok (.iadd, 1) := by decide +kernel
theorem dX10_keepAct_63 : decode cX10_keepAct 63 = .ok (.goto 5, 3) := by decide +kernel
theorem dX10_keepAct_66 : decode cX10_keepAct 66 = .ok (.bipush 14, 2) := by decide +kernel
theorem dX10_keepAct_68 : decode cX10_keepAct 68 = .ok (.putfield 118, 3) := by decide +kernel
theorem dX10_keepAct_71 : decode cX10_keepAct 71 = .ok (.return_, 1) := by decide +kernel
set_option maxRecDepth 20000 in
theorem ggX10_slow_X10_isGate : GoodIn wsX10_slow wsX10_isGate := goodIn_r _ [7, 8, 9, 10, 6, 11, 19, 20, 21, 22, 23, 24, 25, 26, 27, 28, 29, 30, 31, 32, 33, 34, 35, 36, 37, 38, 39, 40, 41, 42, 43, 44, 45, 46, 47, 48, 49] (by decide +kernel) (by decide +kernel)
set_option maxRecDepth 20000 in
theorem gX10_slow_X10_isGate : GoodIn wsX10_slow (wsV RX10 127 RX10 yX10_isGate wsX10_isGate) := goodIn_app (goodIn_of _ (by decide +kernel)) ggX10_slow_X10_isGate
set_option maxRecDepth 20000 in
theorem ggX10_slow_X10_in : GoodIn wsX10_slow wsX10_in := goodIn_r _ [11] (by decide +kernel) (by decide +kernel)
set_option maxRecDepth 20000 in
theorem gX10_slow_X10_in : GoodIn wsX10_slow (va_wsS RX10 76 yX10_in wsX10_in) := goodIn_app (goodIn_of _ (by decide +kernel)) ggX10_slow_X10_in
set_option maxRecDepth 20000 in
theorem ggX10_slow_X10_keepAct : GoodIn wsX10_slow wsX10_keepAct := goodIn_r _ [15, 16, 17, 2, 18, 19, 20, 21, 22, 23, 24, 25, 26, 27, 28, 29, 30, 31, 32, 33, 34, 35, 36, 37, 38, 39, 40, 41, 42, 43, 44, 45, 46, 47, 48, 49] (by decide +kernel) (by decide +kernel)
set_option maxRecDepth 20000 in
theorem gX10_slow_X10_keepAct : GoodIn wsX10_slow (wsV RX10 222 RX10 yX10_keepAct wsX10_keepAct) := goodIn_app (goodIn_of _ (by decide +kernel)) ggX10_slow_X10_keepAct
theorem dX10_slow_0 : decode cX10_slow 0 = .ok (.aload_n 0, 1) := by decide +kernel
theorem dX10_slow_1 : decode cX10_slow 1 = .ok (.iload_n 1, 1) := by decide +kernel
theorem dX10_slow_2 : decode cX10_slow 2 = .ok (.invokevirtual 127, 3) := by decide +kernel
theorem dX10_slow_5 : decode cX10_slow 5 = .ok (.ifCond .ne 5, 3) := by decide +kernel
theorem dX10_slow_8 : decode cX10_slow 8 = .ok (.iconst (-1), 1) := by decide +kernel
theorem dX10_slow_9 : decode cX10_slow 9 = .ok (.ireturn, 1) := by decide +kernel
theorem dX10_slow_10 : decode cX10_slow 10 = .ok (.iload_n 2, 1) := by decide +kernel
theorem dX10_slow_11 : decode cX10_slow 11 = .ok (.i2l, 1) := by decide +kernel
theorem dX10_slow_12 : decode cX10_slow 12 = .ok (.lconst 1, 1) := by decide +kernel
theorem dX10_slow_13 : decode cX10_slow 13 = .ok (.ldc2_w 220, 3) := by decide +kernel
theorem dX10_slow_16 : decode cX10_slow 16 = .ok (.invokestatic 76, 3) := by decide +kernel
theorem dX10_slow_19 : decode cX10_slow 19 = .ok (.ifCond .ne 6, 3) := by decide +kernel
theorem dX10_slow_22 : decode cX10_slow 22 = .ok (.bipush (-2), 2) := by decide +kernel
theorem dX10_slow_24 : decode cX10_slow 24 = .ok (.ireturn, 1) := by decide +kernel
theorem dX10_slow_25 : decode cX10_slow 25 = .ok (.aload_n 0, 1) := by decide +kernel
theorem dX10_slow_26 : decode cX10_slow 26 = .ok (.invokevirtual 222, 3) := by decide +kernel
theorem dX10_slow_29 : decode cX10_slow 29 = .ok (.aload_n 0, 1) := by decide +kernel
theorem dX10_slow_30 : decode cX10_slow 30 = .ok (.getfield 7, 3) := by decide +kernel
theorem dX10_slow_33 : decode cX10_slow 33 = .ok (.bipush 8, 2) := by decide +kernel
theorem dX10_slow_35 : decode cX10_slow 35 = .ok (.iload_n 1, 1) := by decide +kernel
theorem dX10_slow_36 : decode cX10_slow 36 = .ok (.iadd, 1) := by decide +kernel
theorem dX10_slow_37 : decode cX10_slow 37 = .ok (.iaload, 1) := by decide +kernel
theorem dX10_slow_38 : decode cX10_slow 38 = .ok (.istore_n 3, 1) := by decide +kernel
theorem dX10_slow_39 : decode cX10_slow 39 = .ok (.aload_n 0, 1) := by decide +kernel
theorem dX10_slow_40 : decode cX10_slow 40 = .ok (.getfield 7, 3) := by decide +kernel
theorem dX10_slow_43 : decode cX10_slow 43 = .ok (.bipush 8, 2) := by decide +kernel
theorem dX10_slow_45 : decode cX10_slow 45 = .ok (.iload_n 1, 1) := by decide +kernel
theorem dX10_slow_46 : decode cX10_slow 46 = .ok (.iadd, 1) := by decide +kernel
theorem dX10_slow_47 : decode cX10_slow 47 = .ok (.iload_n 2, 1) := by decide +kernel
theorem dX10_slow_48 : decode cX10_slow 48 = .ok (.iastore, 1) := by decide +kernel
theorem dX10_slow_49 : decode cX10_slow 49 = .ok (.iload_n 3, 1) := by decide +kernel
theorem dX10_slow_50 : decode cX10_slow 50 = .ok (.ireturn, 1) := by decide +kernel
set_option maxRecDepth 20000 in
theorem ggX10_turn_X10_isGate : GoodIn wsX10_turn wsX10_isGate := goodIn_r _ [7, 8, 9, 10, 6, 11, 19, 20, 21, 22, 23, 24, 25, 26, 27, 28, 29, 30, 31, 32, 33, 34, 35, 36, 37, 38, 39, 40, 41, 42, 43, 44, 45, 46, 47, 48, 49] (by decide +kernel) (by decide +kernel)
set_option maxRecDepth 20000 in
theorem gX10_turn_X10_isGate : GoodIn wsX10_turn (wsV RX10 127 RX10 yX10_isGate wsX10_isGate) := goodIn_app (goodIn_of _ (by decide +kernel)) ggX10_turn_X10_isGate
set_option maxRecDepth 20000 in
theorem ggX10_turn_X10_in : GoodIn wsX10_turn wsX10_in := goodIn_r _ [11] (by decide +kernel) (by decide +kernel)
set_option maxRecDepth 20000 in
theorem gX10_turn_X10_in : GoodIn wsX10_turn (va_wsS RX10 76 yX10_in wsX10_in) := goodIn_app (goodIn_of _ (by decide +kernel)) ggX10_turn_X10_in
set_option maxRecDepth 20000 in
theorem ggX10_turn_X10_keepAct : GoodIn wsX10_turn wsX10_keepAct := goodIn_r _ [15, 16, 17, 2, 18, 19, 20, 21, 22, 23, 24, 25, 26, 27, 28, 29, 30, 31, 32, 33, 34, 35, 36, 37, 38, 39, 40, 41, 42, 43, 44, 45, 46, 47, 48, 49] (by decide +kernel) (by decide +kernel)
set_option maxRecDepth 20000 in
theorem gX10_turn_X10_keepAct : GoodIn wsX10_turn (wsV RX10 222 RX10 yX10_keepAct wsX10_keepAct) := goodIn_app (goodIn_of _ (by decide +kernel)) ggX10_turn_X10_keepAct
theorem dX10_turn_0 : decode cX10_turn 0 = .ok (.aload_n 0, 1) := by decide +kernel
theorem dX10_turn_1 : decode cX10_turn 1 = .ok (.iload_n 1, 1) := by decide +kernel
theorem dX10_turn_2 : decode cX10_turn 2 = .ok (.invokevirtual 127, 3) := by decide +kernel
theorem dX10_turn_5 : decode cX10_turn 5 = .ok (.ifCond .ne 5, 3) := by decide +kernel
theorem dX10_turn_8 : decode cX10_turn 8 = .ok (.iconst (-1), 1) := by decide +kernel
theorem dX10_turn_9 : decode cX10_turn 9 = .ok (.ireturn, 1) := by decide +kernel
theorem dX10_turn_10 : decode cX10_turn 10 = .ok (.iload_n 2, 1) := by decide +kernel
theorem dX10_turn_11 : decode cX10_turn 11 = .ok (.i2l, 1) := by decide +kernel
theorem dX10_turn_12 : decode cX10_turn 12 = .ok (.lconst 0, 1) := by decide +kernel
theorem dX10_turn_13 : decode cX10_turn 13 = .ok (.ldc2_w 225, 3) := by decide +kernel
theorem dX10_turn_16 : decode cX10_turn 16 = .ok (.invokestatic 76, 3) := by decide +kernel
theorem dX10_turn_19 : decode cX10_turn 19 = .ok (.ifCond .ne 6, 3) := by decide +kernel
theorem dX10_turn_22 : decode cX10_turn 22 = .ok (.bipush (-2), 2) := by decide +kernel
theorem dX10_turn_24 : decode cX10_turn 24 = .ok (.ireturn, 1) := by decide +kernel
theorem dX10_turn_25 : decode cX10_turn 25 = .ok (.aload_n 0, 1) := by decide +kernel
theorem dX10_turn_26 : decode cX10_turn 26 = .ok (.getfield 7, 3) := by decide +kernel
theorem dX10_turn_29 : decode cX10_turn 29 = .ok (.iconst 0, 1) := by decide +kernel
theorem dX10_turn_30 : decode cX10_turn 30 = .ok (.iload_n 1, 1) := by decide +kernel
theorem dX10_turn_31 : decode cX10_turn 31 = .ok (.iadd, 1) := by decide +kernel
theorem dX10_turn_32 : decode cX10_turn 32 = .ok (.iaload, 1) := by decide +kernel
theorem dX10_turn_33 : decode cX10_turn 33 = .ok (.iconst 4, 1) := by decide +kernel
theorem dX10_turn_34 : decode cX10_turn 34 = .ok (.if_icmp .eq 15, 3) := by decide +kernel
theorem dX10_turn_37 : decode cX10_turn 37 = .ok (.aload_n 0, 1) := by decide +kernel
theorem dX10_turn_38 : decode cX10_turn 38 = .ok (.getfield 7, 3) := by decide +kernel
theorem dX10_turn_41 : decode cX10_turn 41 = .ok (.iconst 0, 1) := by decide +kernel
theorem dX10_turn_42 : decode cX10_turn 42 = .ok (.iload_n 1, 1) := by decide +kernel
theorem dX10_turn_43 : decode cX10_turn 43 = .ok (.iadd, 1) := by decide +kernel
theorem dX10_turn_44 : decode cX10_turn 44 = .ok (.iaload, 1) := by decide +kernel
theorem dX10_turn_45 : decode cX10_turn 45 = .ok (.iload_n 2, 1) := by decide +kernel
theorem dX10_turn_46 : decode cX10_turn 46 = .ok (.if_icmp .ne 6, 3) := by decide +kernel
theorem dX10_turn_49 : decode cX10_turn 49 = .ok (.bipush (-3), 2) := by decide +kernel
theorem dX10_turn_51 : decode cX10_turn 51 = .ok (.ireturn, 1) := by decide +kernel
theorem dX10_turn_52 : decode cX10_turn 52 = .ok (.aload_n 0, 1) := by decide +kernel
theorem dX10_turn_53 : decode cX10_turn 53 = .ok (.invokevirtual 222, 3) := by decide +kernel
theorem dX10_turn_56 : decode cX10_turn 56 = .ok (.aload_n 0, 1) := by decide +kernel
theorem dX10_turn_57 : decode cX10_turn 57 = .ok (.getfield 7, 3) := by decide +kernel
theorem dX10_turn_60 : decode cX10_turn 60 = .ok (.iconst 0, 1) := by decide +kernel
theorem dX10_turn_61 : decode cX10_turn 61 = .ok (.iload_n 1, 1) := by decide +kernel
theorem dX10_turn_62 : decode cX10_turn 62 = .ok (.iadd, 1) := by decide +kernel
theorem dX10_turn_63 : decode cX10_turn 63 = .ok (.iaload, 1) := by decide +kernel
theorem dX10_turn_64 : decode cX10_turn 64 = .ok (.istore_n 3, 1) := by decide +kernel
theorem dX10_turn_65 : decode cX10_turn 65 = .ok (.aload_n 0, 1) := by decide +kernel
theorem dX10_turn_66 : decode cX10_turn 66 = .ok (.getfield 7, 3) := by decide +kernel
theorem dX10_turn_69 : decode cX10_turn 69 = .ok (.iconst 0, 1) := by decide +kernel
theorem dX10_turn_70 : decode cX10_turn 70 = .ok (.iload_n 1, 1) := by decide +kernel
theorem dX10_turn_71 : decode cX10_turn 71 = .ok (.iadd, 1) := by decide +kernel
theorem dX10_turn_72 : decode cX10_turn 72 = .ok (.iload_n 2, 1) := by decide +kernel
theorem dX10_turn_73 : decode cX10_turn 73 = .ok (.iastore, 1) := by decide +kernel
theorem dX10_turn_74 : decode cX10_turn 74 = .ok (.iload_n 3, 1) := by decide +kernel
theorem dX10_turn_75 : decode cX10_turn 75 = .ok (.ireturn, 1) := by decide +kernel
theorem dX10_undo_0 : decode cX10_undo 0 = .ok (.aload_n 0, 1) := by decide +kernel
theorem dX10_undo_1 : decode cX10_undo 1 = .ok (.getfield 118, 3) := by decide +kernel
theorem dX10_undo_4 : decode cX10_undo 4 = .ok (.ifCond .ne 6, 3) := by decide +kernel
theorem dX10_undo_7 : decode cX10_undo 7 = .ok (.bipush (-3), 2) := by decide +kernel
theorem dX10_undo_9 : decode cX10_undo 9 = .ok (.ireturn, 1) := by decide +kernel
theorem dX10_undo_10 : decode cX10_undo 10 = .ok (.aload_n 0, 1) := by decide +kernel
theorem dX10_undo_11 : decode cX10_undo 11 = .ok (.dup, 1) := by decide +kernel
theorem dX10_undo_12 : decode cX10_undo 12 = .ok (.getfield 118, 3) := by decide +kernel
theorem dX10_undo_15 : decode cX10_undo 15 = .ok (.iconst 1, 1) := by decide +kernel
theorem dX10_undo_16 : decode cX10_undo 16 = .ok (.isub, 1) := by decide +kernel
theorem dX10_undo_17 : decode cX10_undo 17 = .ok (.putfield 118, 3) := by decide +kernel
theorem dX10_undo_20 : decode cX10_undo 20 = .ok (.aload_n 0, 1) := by decide +kernel
theorem dX10_undo_21 : decode cX10_undo 21 = .ok (.aload_n 0, 1) := by decide +kernel
theorem dX10_undo_22 : decode cX10_undo 22 = .ok (.getfield 217, 3) := by decide +kernel
theorem dX10_undo_25 : decode cX10_undo 25 = .ok (.bipush 13, 2) := by decide +kernel
theorem dX10_undo_27 : decode cX10_undo 27 = .ok (.iadd, 1) := by decide +kernel
theorem dX10_undo_28 : decode cX10_undo 28 = .ok (.bipush 14, 2) := by decide +kernel
theorem dX10_undo_30 : decode cX10_undo 30 = .ok (.irem, 1) := by decide +kernel
theorem dX10_undo_31 : decode cX10_undo 31 = .ok (.putfield 217, 3) := by decide +kernel
theorem dX10_undo_34 : decode cX10_undo 34 = .ok (.iconst 0, 1) := by decide +kernel
theorem dX10_undo_35 : decode cX10_undo 35 = .ok (.istore_n 1, 1) := by decide +kernel
theorem dX10_undo_36 : decode cX10_undo 36 = .ok (.iload_n 1, 1) := by decide +kernel
theorem dX10_undo_37 : decode cX10_undo 37 = .ok (.bipush 16, 2) := by decide +kernel
theorem dX10_undo_39 : decode cX10_undo 39 = .ok (.if_icmp .ge 29, 3) := by decide +kernel
theorem dX10_undo_42 : decode cX10_undo 42 = .ok (.aload_n 0, 1) := by decide +kernel
theorem dX10_undo_43 : decode cX10_undo 43 = .ok (.getfield 7, 3) := by decide +kernel
theorem dX10_undo_46 : decode cX10_undo 46 = .ok (.iload_n 1, 1) := by decide +kernel
theorem dX10_undo_47 : decode cX10_undo 47 = .ok (.aload_n 0, 1) := by decide +kernel
theorem dX10_undo_48 : decode cX10_undo 48 = .ok (.getfield 55, 3) := by decide +kernel
theorem dX10_undo_51 : decode cX10_undo 51 = .ok (.bipush 16, 2) := by decide +kernel
theorem dX10_undo_53 : decode cX10_undo 53 = .ok (.aload_n 0, 1) := by decide +kernel
theorem dX10_undo_54 : decode cX10_undo 54 = .ok (.getfield 217, 3) := by decide +kernel
theorem dX10_undo_57 : decode cX10_undo 57 = .ok (.imul, 1) := by decide +kernel
theorem dX10_undo_58 : decode cX10_undo 58 = .ok (.iload_n 1, 1) := by decide +kernel
theorem dX10_undo_59 : decode cX10_undo 59 = .ok (.iadd, 1) := by decide +kernel
theorem dX10_undo_60 : decode cX10_undo 60 = .ok (.iaload, 1) := by decide +kernel
theorem dX10_undo_61 : decode cX10_undo 61 = .ok (.iastore, 1) := by decide +kernel
theorem dX10_undo_62 : decode cX10_undo 62 = .ok (.iinc 1 1, 3) := by decide +kernel
theorem dX10_undo_65 : decode cX10_undo 65 = .ok (.goto (-29), 3) := by decide +kernel
theorem dX10_undo_68 : decode cX10_undo 68 = .ok (.aload_n 0, 1) := by decide +kernel
theorem dX10_undo_69 : decode cX10_undo 69 = .ok (.getfield 118, 3) := by decide +kernel
theorem dX10_undo_72 : decode cX10_undo 72 = .ok (.ireturn, 1) := by decide +kernel
theorem dX10_layTrial_0 : decode cX10_layTrial 0 = .ok (.iconst 0, 1) := by decide +kernel
theorem dX10_layTrial_1 : decode cX10_layTrial 1 = .ok (.istore_n 1, 1) := by decide +kernel
theorem dX10_layTrial_2 : decode cX10_layTrial 2 = .ok (.iload_n 1, 1) := by decide +kernel
theorem dX10_layTrial_3 : decode cX10_layTrial 3 = .ok (.bipush 16, 2) := by decide +kernel
theorem dX10_layTrial_5 : decode cX10_layTrial 5 = .ok (.if_icmp .ge 24, 3) := by decide +kernel
theorem dX10_layTrial_8 : decode cX10_layTrial 8 = .ok (.aload_n 0, 1) := by decide +kernel
theorem dX10_layTrial_9 : decode cX10_layTrial 9 = .ok (.getfield 7, 3) := by decide +kernel
theorem dX10_layTrial_12 : decode cX10_layTrial 12 = .ok (.bipush 16, 2) := by decide +kernel
theorem dX10_layTrial_14 : decode cX10_layTrial 14 = .ok (.iload_n 1, 1) := by decide +kernel
theorem dX10_layTrial_15 : decode cX10_layTrial 15 = .ok (.iadd, 1) := by decide +kernel
theorem dX10_layTrial_16 : decode cX10_layTrial 16 = .ok (.aload_n 0, 1) := by decide +kernel
theorem dX10_layTrial_17 : decode cX10_layTrial 17 = .ok (.getfield 7, 3) := by decide +kernel
theorem dX10_layTrial_20 : decode cX10_layTrial 20 = .ok (.iload_n 1, 1) := by decide +kernel
theorem dX10_layTrial_21 : decode cX10_layTrial 21 = .ok (.iaload, 1) := by decide +kernel
theorem dX10_layTrial_22 : decode cX10_layTrial 22 = .ok (.iastore, 1) := by decide +kernel
theorem dX10_layTrial_23 : decode cX10_layTrial 23 = .ok (.iinc 1 1, 3) := by decide +kernel
theorem dX10_layTrial_26 : decode cX10_layTrial 26 = .ok (.goto (-24), 3) := by decide +kernel
theorem dX10_layTrial_29 : decode cX10_layTrial 29 = .ok (.return_, 1) := by decide +kernel
set_option maxRecDepth 20000 in
theorem ggX10_longerThan_X10_lengthOf : GoodIn wsX10_longerThan wsX10_lengthOf := goodIn_r _ [6, 7, 8, 9, 10, 11, 5, 12, 13, 14, 15, 16, 17, 18, 19, 20, 21, 22, 23, 24, 25, 26, 27, 28, 29, 30, 31, 32, 33, 34, 35, 36, 37, 38, 39, 40, 41, 42, 43] (by decide +kernel) (by decide +kernel)
set_option maxRecDepth 20000 in
theorem gX10_longerThan_X10_lengthOf : GoodIn wsX10_longerThan (wsV RX10 153 RX10 yX10_lengthOf wsX10_lengthOf) := goodIn_app (goodIn_of _ (by decide +kernel)) ggX10_longerThan_X10_lengthOf
theorem dX10_longerThan_0 : decode cX10_longerThan 0 = .ok (.iconst 0, 1) := by decide +kernel
theorem dX10_longerThan_1 : decode cX10_longerThan 1 = .ok (.istore_n 2, 1) := by decide +kernel
theorem dX10_longerThan_2 : decode cX10_longerThan 2 = .ok (.iconst 0, 1) := by decide +kernel
theorem dX10_longerThan_3 : decode cX10_longerThan 3 = .ok (.istore_n 3, 1) := by decide +kernel
theorem dX10_longerThan_4 : decode cX10_longerThan 4 = .ok (.iload_n 3, 1) := by decide +kernel
theorem dX10_longerThan_5 : decode cX10_longerThan 5 = .ok (.aload_n 0, 1) := by decide +kernel
theorem dX10_longerThan_6 : decode cX10_longerThan 6 = .ok (.getfield 124, 3) := by decide +kernel
theorem dX10_longerThan_9 : decode cX10_longerThan 9 = .ok (.if_icmp .ge 27, 3) := by decide +kernel
theorem dX10_longerThan_12 : decode cX10_longerThan 12 = .ok (.iload_n 2, 1) := by decide +kernel
theorem dX10_longerThan_13 : decode cX10_longerThan 13 = .ok (.aload_n 0, 1) := by decide +kernel
theorem dX10_longerThan_14 : decode cX10_longerThan 14 = .ok (.iconst 1, 1) := by decide +kernel
theorem dX10_longerThan_15 : decode cX10_longerThan 15 = .ok (.iload_n 3, 1) := by decide +kernel
theorem dX10_longerThan_16 : decode cX10_longerThan 16 = .ok (.invokevirtual 153, 3) := by decide +kernel
theorem dX10_longerThan_19 : decode cX10_longerThan 19 = .ok (.iload_n 1, 1) := by decide +kernel
theorem dX10_longerThan_20 : decode cX10_longerThan 20 = .ok (.if_icmp .lt 7, 3) := by decide +kernel
theorem dX10_longerThan_23 : decode cX10_longerThan 23 = .ok (.iconst 1, 1) := by decide +kernel
theorem dX10_longerThan_24 : decode cX10_longerThan 24 = .ok (.goto 4, 3) := by decide +kernel
theorem dX10_longerThan_27 : decode cX10_longerThan 27 = .ok (.iconst 0, 1) := by decide +kernel
theorem dX10_longerThan_28 : decode cX10_longerThan 28 = .ok (.iadd, 1) := by decide +kernel
theorem dX10_longerThan_29 : decode cX10_longerThan 29 = .ok (.istore_n 2, 1) := by decide +kernel
theorem dX10_longerThan_30 : decode cX10_longerThan 30 = .ok (.iinc 3 1, 3) := by decide +kernel
theorem dX10_longerThan_33 : decode cX10_longerThan 33 = .ok (.goto (-29), 3) := by decide +kernel
theorem dX10_longerThan_36 : decode cX10_longerThan 36 = .ok (.iload_n 2, 1) := by decide +kernel
theorem dX10_longerThan_37 : decode cX10_longerThan 37 = .ok (.ireturn, 1) := by decide +kernel
set_option maxRecDepth 20000 in
theorem ggX10_tryThing_X10_isGate : GoodIn wsX10_tryThing wsX10_isGate := goodIn_r _ [8, 9, 10, 11, 7, 12, 77, 78, 79, 80, 81, 82, 83, 84, 85, 86, 87, 88, 89, 90, 91, 92, 93, 94, 95, 96, 97, 98, 99, 100, 101, 102, 103, 104, 105, 106, 107] (by decide +kernel) (by decide +kernel)
set_option maxRecDepth 20000 in
theorem gX10_tryThing_X10_isGate : GoodIn wsX10_tryThing (wsV RX10 127 RX10 yX10_isGate wsX10_isGate) := goodIn_app (goodIn_of _ (by decide +kernel)) ggX10_tryThing_X10_isGate
set_option maxRecDepth 20000 in
theorem ggX10_tryThing_X10_isPath : GoodIn wsX10_tryThing wsX10_isPath := goodIn_r _ [16, 17, 10, 11, 7, 12, 77, 78, 79, 80, 81, 82, 83, 84, 85, 86, 87, 88, 89, 90, 91, 92, 93, 94, 95, 96, 97, 98, 99, 100, 101, 102, 103, 104, 105, 106, 107] (by decide +kernel) (by decide +kernel)
set_option maxRecDepth 20000 in
theorem gX10_tryThing_X10_isPath : GoodIn wsX10_tryThing (wsV RX10 147 RX10 yX10_isPath wsX10_isPath) := goodIn_app (goodIn_of _ (by decide +kernel)) ggX10_tryThing_X10_isPath
set_option maxRecDepth 20000 in
theorem ggX10_tryThing_X10_lengthOf : GoodIn wsX10_tryThing wsX10_lengthOf := goodIn_r _ [21, 9, 3, 1, 22, 23, 7, 24, 77, 78, 79, 80, 81, 82, 83, 84, 85, 86, 87, 88, 89, 90, 91, 92, 93, 94, 95, 96, 97, 98, 99, 100, 101, 102, 103, 104, 105, 106, 107] (by decide +kernel) (by decide +kernel)
set_option maxRecDepth 20000 in
theorem gX10_tryThing_X10_lengthOf : GoodIn wsX10_tryThing (wsV RX10 153 RX10 yX10_lengthOf wsX10_lengthOf) := goodIn_app (goodIn_of _ (by decide +kernel)) ggX10_tryThing_X10_lengthOf
set_option maxRecDepth 20000 in
theorem ggX10_tryThing_X10_longerThan : GoodIn wsX10_tryThing wsX10_longerThan := goodIn_r _ [28, 17, 18, 19, 20, 7, 21, 9, 3, 1, 22, 23, 24, 77, 78, 79, 80, 81, 82, 83, 84, 85, 86, 87, 88, 89, 90, 91, 92, 93, 94, 95, 96, 97, 98, 99, 100, 101, 102, 103, 104, 105, 106, 107] (by decide +kernel) (by decide +kernel)
set_option maxRecDepth 20000 in
theorem gX10_tryThing_X10_longerThan : GoodIn wsX10_tryThing (wsV RX10 227 RX10 yX10_longerThan wsX10_longerThan) := goodIn_app (goodIn_of _ (by decide +kernel)) ggX10_tryThing_X10_longerThan
set_option maxRecDepth 20000 in
theorem ggX10_tryThing_X10_bestOn : GoodIn wsX10_tryThing wsX10_bestOn := goodIn_r _ [32, 33, 34, 35, 7, 36, 37, 38, 10, 11, 12, 22, 23, 24, 39, 40, 41, 42, 43, 44, 45, 9, 1, 46, 47, 48, 49, 50, 51, 52, 53, 54, 55, 56, 57, 58, 59, 60, 61, 62, 63, 64, 65, 77, 78, 79, 80, 81, 82, 83, 84, 85, 86, 87, 88, 89, 90, 91, 92, 93, 94, 95, 96, 97, 98, 99, 100, 101, 102, 103, 104, 105, 106, 107] (by decide +kernel) (by decide +kernel)
set_option maxRecDepth 20000 in
theorem gX10_tryThing_X10_bestOn : GoodIn wsX10_tryThing (wsV RX10 185 RX10 yX10_bestOn wsX10_bestOn) := goodIn_app (goodIn_of _ (by decide +kernel)) ggX10_tryThing_X10_bestOn
set_option maxRecDepth 20000 in
theorem ggX10_tryThing_X10_prunedOn : GoodIn wsX10_tryThing wsX10_prunedOn := goodIn_r _ [69, 38, 9, 70, 71, 72, 7, 73, 17, 2, 3, 22, 23, 24, 29, 30, 31, 32, 33, 34, 35, 36, 37, 10, 11, 12, 39, 40, 41, 42, 43, 44, 45, 1, 46, 47, 48, 49, 50, 51, 52, 53, 54, 55, 56, 57, 58, 59, 60, 61, 62, 63, 64, 65, 74, 75, 76, 77, 78, 79, 80, 81, 82, 83, 84, 85, 86, 87, 88, 89, 90, 91, 92, 93, 94, 95, 96, 97, 98, 99, 100, 101, 102, 103, 104, 105, 106, 107] (by decide +kernel) (by decide +kernel)
set_option maxRecDepth 20000 in
theorem gX10_tryThing_X10_prunedOn : GoodIn wsX10_tryThing (wsV RX10 195 RX10 yX10_prunedOn wsX10_prunedOn) := goodIn_app (goodIn_of _ (by decide +kernel)) ggX10_tryThing_X10_prunedOn
theorem dX10_tryThing_0 : decode cX10_tryThing 0 = .ok (.iload_n 1, 1) := by decide +kernel
theorem dX10_tryThing_1 : decode cX10_tryThing 1 = .ok (.tableswitch 266 1 6 #[39, 89, 159, 183, 198, 240], 39) := by decide +kernel
theorem dX10_tryThing_40 : decode cX10_tryThing 40 = .ok (.iload_n 2, 1) := by decide +kernel
theorem dX10_tryThing_41 : decode cX10_tryThing 41 = .ok (.bipush 10, 2) := by decide +kernel
theorem dX10_tryThing_43 : decode cX10_tryThing 43 = .ok (.irem, 1) := by decide +kernel
theorem dX10_tryThing_44 : decode cX10_tryThing 44 = .ok (.ifCond .ne 22, 3) := by decide +kernel
theorem dX10_tryThing_47 : decode cX10_tryThing 47 = .ok (.aload_n 0, 1) := by decide +kernel
theorem dX10_tryThing_48 : decode cX10_tryThing 48 = .ok (.iload_n 2, 1) := by decide +kernel
theorem dX10_tryThing_49 : decode cX10_tryThing 49 = .ok (.bipush 10, 2) := by decide +kernel
theorem dX10_tryThing_51 : decode cX10_tryThing 51 = .ok (.idiv, 1) := by decide +kernel
theorem dX10_tryThing_52 : decode cX10_tryThing 52 = .ok (.invokevirtual 127, 3) := by decide +kernel
theorem dX10_tryThing_55 : decode cX10_tryThing 55 = .ok (.ifCond .eq 11, 3) := by decide +kernel
theorem dX10_tryThing_58 : decode cX10_tryThing 58 = .ok (.iload_n 3, 1) := by decide +kernel
theorem dX10_tryThing_59 : decode cX10_tryThing 59 = .ok (.ifCond .le 7, 3) := by decide +kernel
theorem dX10_tryThing_62 : decode cX10_tryThing 62 = .ok (.iconst 1, 1) := by decide +kernel
theorem dX10_tryThing_63 : decode cX10_tryThing 63 = .ok (.goto 4, 3) := by decide +kernel
theorem dX10_tryThing_66 : decode cX10_tryThing 66 = .ok (.iconst 0, 1) := by decide +kernel
theorem dX10_tryThing_67 : decode cX10_tryThing 67 = .ok (.istore 4, 2) := by decide +kernel
theorem dX10_tryThing_69 : decode cX10_tryThing 69 = .ok (.iload 4, 2) := by decide +kernel
theorem dX10_tryThing_71 : decode cX10_tryThing 71 = .ok (.ifCond .eq 16, 3) := by decide +kernel
theorem dX10_tryThing_74 : decode cX10_tryThing 74 = .ok (.aload_n 0, 1) := by decide +kernel
theorem dX10_tryThing_75 : decode cX10_tryThing 75 = .ok (.getfield 7, 3) := by decide +kernel
theorem dX10_tryThing_78 : decode cX10_tryThing 78 = .ok (.bipush 24, 2) := by decide +kernel
theorem dX10_tryThing_80 : decode cX10_tryThing 80 = .ok (.iload_n 2, 1) := by decide +kernel
theorem dX10_tryThing_81 : decode cX10_tryThing 81 = .ok (.bipush 10, 2) := by decide +kernel
theorem dX10_tryThing_83 : decode cX10_tryThing 83 = .ok (.idiv, 1) := by decide +kernel
theorem dX10_tryThing_84 : decode cX10_tryThing 84 = .ok (.iadd, 1) := by decide +kernel
theorem dX10_tryThing_85 : decode cX10_tryThing 85 = .ok (.iload_n 3, 1) := by decide +kernel
theorem dX10_tryThing_86 : decode cX10_tryThing 86 = .ok (.iastore, 1) := by decide +kernel
theorem dX10_tryThing_87 : decode cX10_tryThing 87 = .ok (.iload 4, 2) := by decide +kernel
theorem dX10_tryThing_89 : decode cX10_tryThing 89 = .ok (.ireturn, 1) := by decide +kernel
theorem dX10_tryThing_90 : decode cX10_tryThing 90 = .ok (.iload_n 2, 1) := by decide +kernel
theorem dX10_tryThing_91 : decode cX10_tryThing 91 = .ok (.bipush 10, 2) := by decide +kernel
theorem dX10_tryThing_93 : decode cX10_tryThing 93 = .ok (.irem, 1) := by decide +kernel
theorem dX10_tryThing_94 : decode cX10_tryThing 94 = .ok (.ifCond .ne 42, 3) := by decide +kernel
theorem dX10_tryThing_97 : decode cX10_tryThing 97 = .ok (.aload_n 0, 1) := by decide +kernel
theorem dX10_tryThing_98 : decode cX10_tryThing 98 = .ok (.iload_n 2, 1) := by decide +kernel
theorem dX10_tryThing_99 : decode cX10_tryThing 99 = .ok (.bipush 10, 2) := by decide +kernel
theorem dX10_tryThing_101 : decode cX10_tryThing 101 = .ok (.idiv, 1) := by decide +kernel
theorem dX10_tryThing_102 : decode cX10_tryThing 102 = .ok (.invokevirtual 127, 3) := by decide +kernel
theorem dX10_tryThing_105 : decode cX10_tryThing 105 = .ok (.ifCond .eq 31, 3) := by decide +kernel
theorem dX10_tryThing_108 : decode cX10_tryThing 108 = .ok (.iload_n 3, 1) := by decide +kernel
theorem dX10_tryThing_109 : decode cX10_tryThing 109 = .ok (.iconst 3, 1) := by decide +kernel
theorem dX10_tryThing_110 : decode cX10_tryThing 110 = .ok (.if_icmp .gt 26, 3) := by decide +kernel
theorem dX10_tryThing_113 : decode cX10_tryThing 113 = .ok (.aload_n 0, 1) := by decide +kernel
theorem dX10_tryThing_114 : decode cX10_tryThing 114 = .ok (.getfield 7, 3) := by decide +kernel
theorem dX10_tryThing_117 : decode cX10_tryThing 117 = .ok (.bipush 16, 2) := by decide +kernel
theorem dX10_tryThing_119 : decode cX10_tryThing 119 = .ok (.iload_n 2, 1) := by decide +kernel
theorem dX10_tryThing_120 : decode cX10_tryThing 120 = .ok (.bipush 10, 2) := by decide +kernel
theorem dX10_tryThing_122 : decode cX10_tryThing 122 = .ok (.idiv, 1) := by decide +kernel
theorem dX10_tryThing_123 : decode cX10_tryThing 123 = .ok (.bipush 8, 2) := by decide +kernel
theorem dX10_tryThing_125 : decode cX10_tryThing 125 = .ok (.irem, 1) := by decide +kernel
theorem dX10_tryThing_126 : decode cX10_tryThing 126 = .ok (.iadd, 1) := by decide +kernel
theorem dX10_tryThing_127 : decode cX10_tryThing 127 = .ok (.iaload, 1) := by decide +kernel
theorem dX10_tryThing_128 : decode cX10_tryThing 128 = .ok (.iconst 4, 1) := by decide +kernel
theorem dX10_tryThing_129 : decode cX10_tryThing 129 = .ok (.if_icmp .eq 7, 3) := by decide +kernel
theorem dX10_tryThing_132 : decode cX10_tryThing 132 = .ok (.iconst 1, 1) := by decide +kernel
theorem dX10_tryThing_133 : decode cX10_tryThing 133 = .ok (.goto 4, 3) := by decide +kernel
theorem dX10_tryThing_136 : decode cX10_tryThing 136 = .ok (.iconst 0, 1) := by decide +kernel
theorem dX10_tryThing_137 : decode cX10_tryThing 137 = .ok (.istore 5, 2) := by decide +kernel
theorem dX10_tryThing_139 : decode cX10_tryThing 139 = .ok (.iload 5, 2) := by decide +kernel
theorem dX10_tryThing_141 : decode cX10_tryThing 141 = .ok (.ifCond .eq 16, 3) := by decide +kernel
theorem dX10_tryThing_144 : decode cX10_tryThing 144 = .ok (.aload_n 0, 1) := by decide +kernel
theorem dX10_tryThing_145 : decode cX10_tryThing 145 = .ok (.getfield 7, 3) := by decide +kernel
theorem dX10_tryThing_148 : decode cX10_tryThing 148 = .ok (.bipush 16, 2) := by decide +kernel
theorem dX10_tryThing_150 : decode cX10_tryThing 150 = .ok (.iload_n 2, 1) := by decide +kernel
theorem dX10_tryThing_151 : decode cX10_tryThing 151 = .ok (.bipush 10, 2) := by decide +kernel
theorem dX10_tryThing_153 : decode cX10_tryThing 153 = .ok (.idiv, 1) := by decide +kernel
theorem dX10_tryThing_154 : decode cX10_tryThing 154 = .ok (.iadd, 1) := by decide +kernel
theorem dX10_tryThing_155 : decode cX10_tryThing 155 = .ok (.iload_n 3, 1) := by decide +kernel
theorem dX10_tryThing_156 : decode cX10_tryThing 156 = .ok (.iastore, 1) := by decide +kernel
theorem dX10_tryThing_157 : decode cX10_tryThing 157 = .ok (.iload 5, 2) := by decide +kernel
theorem dX10_tryThing_159 : decode cX10_tryThing 159 = .ok (.ireturn, 1) := by decide +kernel
theorem dX10_tryThing_160 : decode cX10_tryThing 160 = .ok (.aload_n 0, 1) := by decide +kernel
theorem dX10_tryThing_161 : decode cX10_tryThing 161 = .ok (.iload_n 2, 1) := by decide +kernel
theorem dX10_tryThing_162 : decode cX10_tryThing 162 = .ok (.invokevirtual 147, 3) := by decide +kernel
theorem dX10_tryThing_165 : decode cX10_tryThing 165 = .ok (.ifCond .eq 17, 3) := by decide +kernel
theorem dX10_tryThing_168 : decode cX10_tryThing 168 = .ok (.aload_n 0, 1) := by decide +kernel
theorem dX10_tryThing_169 : decode cX10_tryThing 169 = .ok (.iconst 1, 1) := by decide +kernel
theorem dX10_tryThing_170 : decode cX10_tryThing 170 = .ok (.iload_n 2, 1) := by decide +kernel
theorem dX10_tryThing_171 : decode cX10_tryThing 171 = .ok (.invokevirtual 153, 3) := by decide +kernel
theorem dX10_tryThing_174 : decode cX10_tryThing 174 = .ok (.iload_n 3, 1) := by decide +kernel
theorem dX10_tryThing_175 : decode cX10_tryThing 175 = .ok (.if_icmp .lt 7, 3) := by decide +kernel
theorem dX10_tryThing_178 : decode cX10_tryThing 178 = .ok (.iconst 1, 1) := by decide +kernel
theorem dX10_tryThing_179 : decode cX10_tryThing 179 = .ok (.goto 4, 3) := by decide +kernel
theorem dX10_tryThing_182 : decode cX10_tryThing 182 = .ok (.iconst 0, 1) := by decide +kernel
theorem dX10_tryThing_183 : decode cX10_tryThing 183 = .ok (.ireturn, 1) := by decide +kernel
theorem dX10_tryThing_184 : decode cX10_tryThing 184 = .ok (.aload_n 0, 1) := by decide +kernel
theorem dX10_tryThing_185 : decode cX10_tryThing 185 = .ok (.iload_n 2, 1) := by decide +kernel
theorem dX10_tryThing_186 : decode cX10_tryThing 186 = .ok (.invokevirtual 227, 3) := by decide +kernel
theorem dX10_tryThing_189 : decode cX10_tryThing 189 = .ok (.iload_n 3, 1) := by decide +kernel
theorem dX10_tryThing_190 : decode cX10_tryThing 190 = .ok (.if_icmp .lt 7, 3) := by decide +kernel
theorem dX10_tryThing_193 : decode cX10_tryThing 193 = .ok (.iconst 1, 1) := by decide +kernel
theorem dX10_tryThing_194 : decode cX10_tryThing 194 = .ok (.goto 4, 3) := by decide +kernel
theorem dX10_tryThing_197 : decode cX10_tryThing 197 = .ok (.iconst 0, 1) := by decide +kernel
theorem dX10_tryThing_198 : decode cX10_tryThing 198 = .ok (.ireturn, 1) := by decide +kernel
theorem dX10_tryThing_199 : decode cX10_tryThing 199 = .ok (.aload_n 0, 1) := by decide +kernel
theorem dX10_tryThing_200 : decode cX10_tryThing 200 = .ok (.iload_n 2, 1) := by decide +kernel
theorem dX10_tryThing_201 : decode cX10_tryThing 201 = .ok (.invokevirtual 147, 3) := by decide +kernel
theorem dX10_tryThing_204 : decode cX10_tryThing 204 = .ok (.ifCond .eq 35, 3) := by decide +kernel
theorem dX10_tryThing_207 : decode cX10_tryThing 207 = .ok (.iload_n 3, 1) := by decide +kernel
theorem dX10_tryThing_208 : decode cX10_tryThing 208 = .ok (.iconst 2, 1) := by decide +kernel
theorem dX10_tryThing_209 : decode cX10_tryThing 209 = .ok (.if_icmp .ge 30, 3) := by decide +kernel
theorem dX10_tryThing_212 : decode cX10_tryThing 212 = .ok (.aload_n 0, 1) := by decide +kernel
theorem dX10_tryThing_213 : decode cX10_tryThing 213 = .ok (.iconst 1, 1) := by decide +kernel
theorem dX10_tryThing_214 : decode cX10_tryThing 214 = .ok (.aload_n 0, 1) := by decide +kernel
theorem dX10_tryThing_215 : decode cX10_tryThing 215 = .ok (.getfield 34, 3) := by decide +kernel
theorem dX10_tryThing_218 : decode cX10_tryThing 218 = .ok (.iload_n 2, 1) := by decide +kernel
theorem dX10_tryThing_219 : decode cX10_tryThing 219 = .ok (.iaload, 1) := by decide +kernel
theorem dX10_tryThing_220 : decode cX10_tryThing 220 = .ok (.aload_n 0, 1) := by decide +kernel
theorem dX10_tryThing_221 : decode cX10_tryThing 221 = .ok (.getfield 37, 3) := by decide +kernel
theorem dX10_tryThing_224 : decode cX10_tryThing 224 = .ok (.iload_n 2, 1) := by decide +kernel
theorem dX10_tryThing_225 : decode cX10_tryThing 225 = .ok (.iaload, 1) := by decide +kernel
theorem dX10_tryThing_226 : decode cX10_tryThing 226 = .ok (.iload_n 3, 1) := by decide +kernel
theorem dX10_tryThing_227 : decode cX10_tryThing 227 = .ok (.iconst 0, 1) := by decide +kernel
theorem dX10_tryThing_228 : decode cX10_tryThing 228 = .ok (.iconst 1, 1) := by decide +kernel
theorem dX10_tryThing_229 : decode cX10_tryThing 229 = .ok (.invokevirtual 185, 3) := by decide +kernel
theorem dX10_tryThing_232 : decode cX10_tryThing 232 = .ok (.ifCond .le 7, 3) := by decide +kernel
theorem dX10_tryThing_235 : decode cX10_tryThing 235 = .ok (.iconst 1, 1) := by decide +kernel
theorem dX10_tryThing_236 : decode cX10_tryThing 236 = .ok (.goto 4, 3) := by decide +kernel
theorem dX10_tryThing_239 : decode cX10_tryThing 239 = .ok (.iconst 0, 1) := by decide +kernel
theorem dX10_tryThing_240 : decode cX10_tryThing 240 = .ok (.ireturn, 1) := by decide +kernel
theorem dX10_tryThing_241 : decode cX10_tryThing 241 = .ok (.iload_n 2, 1) := by decide +kernel
theorem dX10_tryThing_242 : decode cX10_tryThing 242 = .ok (.bipush 10, 2) := by decide +kernel
theorem dX10_tryThing_244 : decode cX10_tryThing 244 = .ok (.if_icmp .ge 21, 3) := by decide +kernel
theorem dX10_tryThing_247 : decode cX10_tryThing 247 = .ok (.aload_n 0, 1) := by decide +kernel
theorem dX10_tryThing_248 : decode cX10_tryThing 248 = .ok (.iconst 1, 1) := by decide +kernel
theorem dX10_tryThing_249 : decode cX10_tryThing 249 = .ok (.invokevirtual 195, 3) := by decide +kernel
theorem dX10_tryThing_252 : decode cX10_tryThing 252 = .ok (.bipush 10, 2) := by decide +kernel
theorem dX10_tryThing_254 : decode cX10_tryThing 254 = .ok (.iload_n 2, 1) := by decide +kernel
theorem dX10_tryThing_255 : decode cX10_tryThing 255 = .ok (.imul, 1) := by decide +kernel
theorem dX10_tryThing_256 : decode cX10_tryThing 256 = .ok (.iload_n 3, 1) := by decide +kernel
theorem dX10_tryThing_257 : decode cX10_tryThing 257 = .ok (.iadd, 1) := by decide +kernel
theorem dX10_tryThing_258 : decode cX10_tryThing 258 = .ok (.if_icmp .lt 7, 3) := by decide +kernel
theorem dX10_tryThing_261 : decode cX10_tryThing 261 = .ok (.iconst 1, 1) := by decide +kernel
theorem dX10_tryThing_262 : decode cX10_tryThing 262 = .ok (.goto 4, 3) := by decide +kernel
theorem dX10_tryThing_265 : decode cX10_tryThing 265 = .ok (.iconst 0, 1) := by decide +kernel
theorem dX10_tryThing_266 : decode cX10_tryThing 266 = .ok (.ireturn, 1) := by decide +kernel
theorem dX10_tryThing_267 : decode cX10_tryThing 267 = .ok (.iconst 0, 1) := by decide +kernel
theorem dX10_tryThing_268 : decode cX10_tryThing 268 = .ok (.ireturn, 1) := by decide +kernel
theorem dX10_tenThousandTo_0 : decode cX10_tenThousandTo 0 = .ok (.lconst 1, 1) := by decide +kernel
theorem dX10_tenThousandTo_1 : decode cX10_tenThousandTo 1 = .ok (.lstore_n 1, 1) := by decide +kernel
theorem dX10_tenThousandTo_2 : decode cX10_tenThousandTo 2 = .ok (.iconst 0, 1) := by decide +kernel
theorem dX10_tenThousandTo_3 : decode cX10_tenThousandTo 3 = .ok (.istore_n 3, 1) := by decide +kernel
theorem dX10_tenThousandTo_4 : decode cX10_tenThousandTo 4 = .ok (.iload_n 3, 1) := by decide +kernel
theorem dX10_tenThousandTo_5 : decode cX10_tenThousandTo 5 = .ok (.iload_n 0, 1) := by decide +kernel
theorem dX10_tenThousandTo_6 : decode cX10_tenThousandTo 6 = .ok (.if_icmp .ge 15, 3) := by decide +kernel
theorem dX10_tenThousandTo_9 : decode cX10_tenThousandTo 9 = .ok (.lload_n 1, 1) := by decide +kernel
theorem dX10_tenThousandTo_10 : decode cX10_tenThousandTo 10 = .ok (.ldc2_w 230, 3) := by decide +kernel
theorem dX10_tenThousandTo_13 : decode cX10_tenThousandTo 13 = .ok (.lmul, 1) := by decide +kernel
theorem dX10_tenThousandTo_14 : decode cX10_tenThousandTo 14 = .ok (.lstore_n 1, 1) := by decide +kernel
theorem dX10_tenThousandTo_15 : decode cX10_tenThousandTo 15 = .ok (.iinc 3 1, 3) := by decide +kernel
theorem dX10_tenThousandTo_18 : decode cX10_tenThousandTo 18 = .ok (.goto (-14), 3) := by decide +kernel
theorem dX10_tenThousandTo_21 : decode cX10_tenThousandTo 21 = .ok (.lload_n 1, 1) := by decide +kernel
theorem dX10_tenThousandTo_22 : decode cX10_tenThousandTo 22 = .ok (.lreturn, 1) := by decide +kernel
set_option maxRecDepth 20000 in
theorem ggX10_judge_X10_in : GoodIn wsX10_judge wsX10_in := goodIn_r _ [6] (by decide +kernel) (by decide +kernel)
set_option maxRecDepth 20000 in
theorem gX10_judge_X10_in : GoodIn wsX10_judge (va_wsS RX10 76 yX10_in wsX10_in) := goodIn_app (goodIn_of _ (by decide +kernel)) ggX10_judge_X10_in
set_option maxRecDepth 20000 in
theorem ggX10_judge_X10_tenThousandTo : GoodIn wsX10_judge wsX10_tenThousandTo := goodIn_r _ [9, 2] (by decide +kernel) (by decide +kernel)
set_option maxRecDepth 20000 in
theorem gX10_judge_X10_tenThousandTo : GoodIn wsX10_judge (va_wsS RX10 234 yX10_tenThousandTo wsX10_tenThousandTo) := goodIn_app (goodIn_of _ (by decide +kernel)) ggX10_judge_X10_tenThousandTo
set_option maxRecDepth 20000 in
theorem ggX10_judge_X10_layTrial : GoodIn wsX10_judge wsX10_layTrial := goodIn_r _ [13, 14, 90, 91, 92, 93, 94, 95, 96, 97, 98, 99, 100, 101, 102, 103, 104, 105, 106, 107, 108, 109, 110, 111, 112, 113, 114, 115, 116, 117, 118, 119, 120] (by decide +kernel) (by decide +kernel)
set_option maxRecDepth 20000 in
theorem gX10_judge_X10_layTrial : GoodIn wsX10_judge (wsV RX10 238 RX10 yX10_layTrial wsX10_layTrial) := goodIn_app (goodIn_of _ (by decide +kernel)) ggX10_judge_X10_layTrial
set_option maxRecDepth 20000 in
theorem ggX10_judge_X10_tryThing : GoodIn wsX10_judge wsX10_tryThing := goodIn_r _ [18, 14, 19, 20, 21, 22, 23, 5, 24, 25, 3, 4, 6, 26, 27, 28, 29, 30, 31, 32, 33, 34, 35, 36, 37, 38, 39, 40, 41, 42, 43, 44, 45, 46, 47, 48, 49, 50, 51, 52, 53, 54, 55, 56, 57, 58, 59, 60, 61, 62, 63, 64, 65, 66, 67, 68, 69, 70, 71, 72, 73, 74, 75, 76, 77, 78, 79, 80, 81, 82, 83, 84, 85, 86, 87, 88, 89, 90, 91, 92, 93, 94, 95, 96, 97, 98, 99, 100, 101, 102, 103, 104, 105, 106, 107, 108, 109, 110, 111, 112, 113, 114, 115, 116, 117, 118, 119, 120] (by decide +kernel) (by decide +kernel)
set_option maxRecDepth 20000 in
theorem gX10_judge_X10_tryThing : GoodIn wsX10_judge (wsV RX10 241 RX10 yX10_tryThing wsX10_tryThing) := goodIn_app (goodIn_of _ (by decide +kernel)) ggX10_judge_X10_tryThing
theorem dX10_judge_0 : decode cX10_judge 0 = .ok (.iload_n 1, 1) := by decide +kernel
theorem dX10_judge_1 : decode cX10_judge 1 = .ok (.i2l, 1) := by decide +kernel
theorem dX10_judge_2 : decode cX10_judge 2 = .ok (.lconst 1, 1) := by decide +kernel
theorem dX10_judge_3 : decode cX10_judge 3 = .ok (.ldc2_w 232, 3) := by decide +kernel
theorem dX10_judge_6 : decode cX10_judge 6 = .ok (.invokestatic 76, 3) := by decide +kernel
theorem dX10_judge_9 : decode cX10_judge 9 = .ok (.ifCond .eq 17, 3) := by decide +kernel
theorem dX10_judge_12 : decode cX10_judge 12 = .ok (.lload_n 2, 1) := by decide +kernel
theorem dX10_judge_13 : decode cX10_judge 13 = .ok (.lconst 0, 1) := by decide +kernel
theorem dX10_judge_14 : decode cX10_judge 14 = .ok (.iload_n 1, 1) := by decide +kernel
theorem dX10_judge_15 : decode cX10_judge 15 = .ok (.invokestatic 234, 3) := by decide +kernel
theorem dX10_judge_18 : decode cX10_judge 18 = .ok (.lconst 1, 1) := by decide +kernel
theorem dX10_judge_19 : decode cX10_judge 19 = .ok (.lsub, 1) := by decide +kernel
theorem dX10_judge_20 : decode cX10_judge 20 = .ok (.invokestatic 76, 3) := by decide +kernel
theorem dX10_judge_23 : decode cX10_judge 23 = .ok (.ifCond .ne 6, 3) := by decide +kernel
theorem dX10_judge_26 : decode cX10_judge 26 = .ok (.bipush (-2), 2) := by decide +kernel
theorem dX10_judge_28 : decode cX10_judge 28 = .ok (.ireturn, 1) := by decide +kernel
theorem dX10_judge_29 : decode cX10_judge 29 = .ok (.aload_n 0, 1) := by decide +kernel
theorem dX10_judge_30 : decode cX10_judge 30 = .ok (.invokevirtual 238, 3) := by decide +kernel
theorem dX10_judge_33 : decode cX10_judge 33 = .ok (.iconst 0, 1) := by decide +kernel
theorem dX10_judge_34 : decode cX10_judge 34 = .ok (.istore 4, 2) := by decide +kernel
theorem dX10_judge_36 : decode cX10_judge 36 = .ok (.iload 4, 2) := by decide +kernel
theorem dX10_judge_38 : decode cX10_judge 38 = .ok (.iload_n 1, 1) := by decide +kernel
theorem dX10_judge_39 : decode cX10_judge 39 = .ok (.if_icmp .ge 56, 3) := by decide +kernel
theorem dX10_judge_42 : decode cX10_judge 42 = .ok (.lload_n 2, 1) := by decide +kernel
theorem dX10_judge_43 : decode cX10_judge 43 = .ok (.iload_n 1, 1) := by decide +kernel
theorem dX10_judge_44 : decode cX10_judge 44 = .ok (.iconst 1, 1) := by decide +kernel
theorem dX10_judge_45 : decode cX10_judge 45 = .ok (.isub, 1) := by decide +kernel
theorem dX10_judge_46 : decode cX10_judge 46 = .ok (.iload 4, 2) := by decide +kernel
theorem dX10_judge_48 : decode cX10_judge 48 = .ok (.isub, 1) := by decide +kernel
theorem dX10_judge_49 : decode cX10_judge 49 = .ok (.invokestatic 234, 3) := by decide +kernel
theorem dX10_judge_52 : decode cX10_judge 52 = .ok (.ldiv, 1) := by decide +kernel
theorem dX10_judge_53 : decode cX10_judge 53 = .ok (.ldc2_w 230, 3) := by decide +kernel
theorem dX10_judge_56 : decode cX10_judge 56 = .ok (.lrem, 1) := by decide +kernel
theorem dX10_judge_57 : decode cX10_judge 57 = .ok (.l2i, 1) := by decide +kernel
theorem dX10_judge_58 : decode cX10_judge 58 = .ok (.istore 5, 2) := by decide +kernel
theorem dX10_judge_60 : decode cX10_judge 60 = .ok (.aload_n 0, 1) := by decide +kernel
theorem dX10_judge_61 : decode cX10_judge 61 = .ok (.iload 5, 2) := by decide +kernel
theorem dX10_judge_63 : decode cX10_judge 63 = .ok (.sipush 1000, 3) := by decide +kernel
theorem dX10_judge_66 : decode cX10_judge 66 = .ok (.idiv, 1) := by decide +kernel
theorem dX10_judge_67 : decode cX10_judge 67 = .ok (.iload 5, 2) := by decide +kernel
theorem dX10_judge_69 : decode cX10_judge 69 = .ok (.bipush 10, 2) := by decide +kernel
theorem dX10_judge_71 : decode cX10_judge 71 = .ok (.idiv, 1) := by decide +kernel
theorem dX10_judge_72 : decode cX10_judge 72 = .ok (.bipush 100, 2) := by decide +kernel
theorem dX10_judge_74 : decode cX10_judge 74 = .ok (.irem, 1) := by decide +kernel
theorem dX10_judge_75 : decode cX10_judge 75 = .ok (.iload 5, 2) := by decide +kernel
theorem dX10_judge_77 : decode cX10_judge 77 = .ok (.bipush 10, 2) := by decide +kernel
theorem dX10_judge_79 : decode cX10_judge 79 = .ok (.irem, 1) := by decide +kernel
theorem dX10_judge_80 : decode cX10_judge 80 = .ok (.invokevirtual 241, 3) := by decide +kernel
theorem dX10_judge_83 : decode cX10_judge 83 = .ok (.ifCond .ne 6, 3) := by decide +kernel
theorem dX10_judge_86 : decode cX10_judge 86 = .ok (.iload 4, 2) := by decide +kernel
theorem dX10_judge_88 : decode cX10_judge 88 = .ok (.ireturn, 1) := by decide +kernel
theorem dX10_judge_89 : decode cX10_judge 89 = .ok (.iinc 4 1, 3) := by decide +kernel
theorem dX10_judge_92 : decode cX10_judge 92 = .ok (.goto (-56), 3) := by decide +kernel
theorem dX10_judge_95 : decode cX10_judge 95 = .ok (.bipush (-9), 2) := by decide +kernel
theorem dX10_judge_97 : decode cX10_judge 97 = .ok (.ireturn, 1) := by decide +kernel
set_option maxRecDepth 20000 in
theorem ggX10_see_X10_in : GoodIn wsX10_see wsX10_in := goodIn_r _ [10] (by decide +kernel) (by decide +kernel)
set_option maxRecDepth 20000 in
theorem gX10_see_X10_in : GoodIn wsX10_see (va_wsS RX10 76 yX10_in wsX10_in) := goodIn_app (goodIn_of _ (by decide +kernel)) ggX10_see_X10_in
theorem dX10_see_0 : decode cX10_see 0 = .ok (.iload_n 1, 1) := by decide +kernel
theorem dX10_see_1 : decode cX10_see 1 = .ok (.i2l, 1) := by decide +kernel
theorem dX10_see_2 : decode cX10_see 2 = .ok (.lconst 0, 1) := by decide +kernel
theorem dX10_see_3 : decode cX10_see 3 = .ok (.ldc2_w 74, 3) := by decide +kernel
theorem dX10_see_6 : decode cX10_see 6 = .ok (.invokestatic 76, 3) := by decide +kernel
theorem dX10_see_9 : decode cX10_see 9 = .ok (.ifCond .eq 25, 3) := by decide +kernel
theorem dX10_see_12 : decode cX10_see 12 = .ok (.iload_n 2, 1) := by decide +kernel
theorem dX10_see_13 : decode cX10_see 13 = .ok (.i2l, 1) := by decide +kernel
theorem dX10_see_14 : decode cX10_see 14 = .ok (.lconst 0, 1) := by decide +kernel
theorem dX10_see_15 : decode cX10_see 15 = .ok (.ldc2_w 208, 3) := by decide +kernel
theorem dX10_see_18 : decode cX10_see 18 = .ok (.invokestatic 76, 3) := by decide +kernel
theorem dX10_see_21 : decode cX10_see 21 = .ok (.ifCond .eq 13, 3) := by decide +kernel
theorem dX10_see_24 : decode cX10_see 24 = .ok (.iload_n 3, 1) := by decide +kernel
theorem dX10_see_25 : decode cX10_see 25 = .ok (.i2l, 1) := by decide +kernel
theorem dX10_see_26 : decode cX10_see 26 = .ok (.lconst 0, 1) := by decide +kernel
theorem dX10_see_27 : decode cX10_see 27 = .ok (.lconst 1, 1) := by decide +kernel
theorem dX10_see_28 : decode cX10_see 28 = .ok (.invokestatic 76, 3) := by decide +kernel
theorem dX10_see_31 : decode cX10_see 31 = .ok (.ifCond .ne 6, 3) := by decide +kernel
theorem dX10_see_34 : decode cX10_see 34 = .ok (.bipush (-2), 2) := by decide +kernel
theorem dX10_see_36 : decode cX10_see 36 = .ok (.ireturn, 1) := by decide +kernel
theorem dX10_see_37 : decode cX10_see 37 = .ok (.aload_n 0, 1) := by decide +kernel
theorem dX10_see_38 : decode cX10_see 38 = .ok (.getfield 244, 3) := by decide +kernel
theorem dX10_see_41 : decode cX10_see 41 = .ok (.bipush 6, 2) := by decide +kernel
theorem dX10_see_43 : decode cX10_see 43 = .ok (.if_icmp .ne 6, 3) := by decide +kernel
theorem dX10_see_46 : decode cX10_see 46 = .ok (.bipush (-4), 2) := by decide +kernel
theorem dX10_see_48 : decode cX10_see 48 = .ok (.ireturn, 1) := by decide +kernel
theorem dX10_see_49 : decode cX10_see 49 = .ok (.aload_n 0, 1) := by decide +kernel
theorem dX10_see_50 : decode cX10_see 50 = .ok (.getfield 58, 3) := by decide +kernel
theorem dX10_see_53 : decode cX10_see 53 = .ok (.aload_n 0, 1) := by decide +kernel
theorem dX10_see_54 : decode cX10_see 54 = .ok (.getfield 244, 3) := by decide +kernel
theorem dX10_see_57 : decode cX10_see 57 = .ok (.iload_n 1, 1) := by decide +kernel
theorem dX10_see_58 : decode cX10_see 58 = .ok (.iastore, 1) := by decide +kernel
theorem dX10_see_59 : decode cX10_see 59 = .ok (.aload_n 0, 1) := by decide +kernel
theorem dX10_see_60 : decode cX10_see 60 = .ok (.getfield 61, 3) := by decide +kernel
theorem dX10_see_63 : decode cX10_see 63 = .ok (.aload_n 0, 1) := by decide +kernel
theorem dX10_see_64 : decode cX10_see 64 = .ok (.getfield 244, 3) := by decide +kernel
theorem dX10_see_67 : decode cX10_see 67 = .ok (.iload_n 2, 1) := by decide +kernel
theorem dX10_see_68 : decode cX10_see 68 = .ok (.iastore, 1) := by decide +kernel
theorem dX10_see_69 : decode cX10_see 69 = .ok (.aload_n 0, 1) := by decide +kernel
theorem dX10_see_70 : decode cX10_see 70 = .ok (.getfield 64, 3) := by decide +kernel
theorem dX10_see_73 : decode cX10_see 73 = .ok (.aload_n 0, 1) := by decide +kernel
theorem dX10_see_74 : decode cX10_see 74 = .ok (.getfield 244, 3) := by decide +kernel
theorem dX10_see_77 : decode cX10_see 77 = .ok (.iload_n 3, 1) := by decide +kernel
theorem dX10_see_78 : decode cX10_see 78 = .ok (.iastore, 1) := by decide +kernel
theorem dX10_see_79 : decode cX10_see 79 = .ok (.aload_n 0, 1) := by decide +kernel
theorem dX10_see_80 : decode cX10_see 80 = .ok (.dup, 1) := by decide +kernel
theorem dX10_see_81 : decode cX10_see 81 = .ok (.getfield 244, 3) := by decide +kernel
theorem dX10_see_84 : decode cX10_see 84 = .ok (.iconst 1, 1) := by decide +kernel
theorem dX10_see_85 : decode cX10_see 85 = .ok (.iadd, 1) := by decide +kernel
theorem dX10_see_86 : decode cX10_see 86 = .ok (.putfield 244, 3) := by decide +kernel
theorem dX10_see_89 : decode cX10_see 89 = .ok (.aload_n 0, 1) := by decide +kernel
theorem dX10_see_90 : decode cX10_see 90 = .ok (.getfield 244, 3) := by decide +kernel
theorem dX10_see_93 : decode cX10_see 93 = .ok (.ireturn, 1) := by decide +kernel
theorem dX10_unsee_0 : decode cX10_unsee 0 = .ok (.aload_n 0, 1) := by decide +kernel
theorem dX10_unsee_1 : decode cX10_unsee 1 = .ok (.getfield 244, 3) := by decide +kernel
theorem dX10_unsee_4 : decode cX10_unsee 4 = .ok (.istore_n 1, 1) := by decide +kernel
theorem dX10_unsee_5 : decode cX10_unsee 5 = .ok (.aload_n 0, 1) := by decide +kernel
theorem dX10_unsee_6 : decode cX10_unsee 6 = .ok (.iconst 0, 1) := by decide +kernel
theorem dX10_unsee_7 : decode cX10_unsee 7 = .ok (.putfield 244, 3) := by decide +kernel
theorem dX10_unsee_10 : decode cX10_unsee 10 = .ok (.iload_n 1, 1) := by decide +kernel
theorem dX10_unsee_11 : decode cX10_unsee 11 = .ok (.ireturn, 1) := by decide +kernel
set_option maxRecDepth 20000 in
theorem ggX10_slower_X10_in : GoodIn wsX10_slower wsX10_in := goodIn_r _ [10] (by decide +kernel) (by decide +kernel)
set_option maxRecDepth 20000 in
theorem gX10_slower_X10_in : GoodIn wsX10_slower (va_wsS RX10 76 yX10_in wsX10_in) := goodIn_app (goodIn_of _ (by decide +kernel)) ggX10_slower_X10_in
set_option maxRecDepth 20000 in
theorem ggX10_slower_X10_layTrial : GoodIn wsX10_slower wsX10_layTrial := goodIn_r _ [14, 2, 47, 48, 49, 50, 51, 52, 53, 54, 55, 56, 57, 58, 59, 60, 61, 62, 63, 64, 65, 66, 67, 68, 69, 70, 71, 72, 73, 74, 75, 76, 77] (by decide +kernel) (by decide +kernel)
set_option maxRecDepth 20000 in
theorem gX10_slower_X10_layTrial : GoodIn wsX10_slower (wsV RX10 238 RX10 yX10_layTrial wsX10_layTrial) := goodIn_app (goodIn_of _ (by decide +kernel)) ggX10_slower_X10_layTrial
set_option maxRecDepth 20000 in
theorem ggX10_slower_X10_isLate : GoodIn wsX10_slower wsX10_isLate := goodIn_r _ [18, 1, 19, 20, 21, 22, 9, 23, 24, 25, 2, 26, 27, 28, 29, 30, 31, 32, 33, 34, 35, 36, 37, 38, 39, 40, 41, 42, 43, 44, 45, 46, 47, 48, 49, 50, 51, 52, 53, 54, 55, 56, 57, 58, 59, 60, 61, 62, 63, 64, 65, 66, 67, 68, 69, 70, 71, 72, 73, 74, 75, 76, 77] (by decide +kernel) (by decide +kernel)
set_option maxRecDepth 20000 in
theorem gX10_slower_X10_isLate : GoodIn wsX10_slower (wsV RX10 213 RX10 yX10_isLate wsX10_isLate) := goodIn_app (goodIn_of _ (by decide +kernel)) ggX10_slower_X10_isLate
theorem dX10_slower_0 : decode cX10_slower 0 = .ok (.iload_n 1, 1) := by decide +kernel
theorem dX10_slower_1 : decode cX10_slower 1 = .ok (.i2l, 1) := by decide +kernel
theorem dX10_slower_2 : decode cX10_slower 2 = .ok (.lconst 0, 1) := by decide +kernel
theorem dX10_slower_3 : decode cX10_slower 3 = .ok (.lconst 1, 1) := by decide +kernel
theorem dX10_slower_4 : decode cX10_slower 4 = .ok (.invokestatic 76, 3) := by decide +kernel
theorem dX10_slower_7 : decode cX10_slower 7 = .ok (.ifCond .ne 6, 3) := by decide +kernel
theorem dX10_slower_10 : decode cX10_slower 10 = .ok (.bipush (-2), 2) := by decide +kernel
theorem dX10_slower_12 : decode cX10_slower 12 = .ok (.ireturn, 1) := by decide +kernel
theorem dX10_slower_13 : decode cX10_slower 13 = .ok (.iconst 0, 1) := by decide +kernel
theorem dX10_slower_14 : decode cX10_slower 14 = .ok (.istore_n 2, 1) := by decide +kernel
theorem dX10_slower_15 : decode cX10_slower 15 = .ok (.bipush (-9), 2) := by decide +kernel
theorem dX10_slower_17 : decode cX10_slower 17 = .ok (.istore_n 3, 1) := by decide +kernel
theorem dX10_slower_18 : decode cX10_slower 18 = .ok (.iconst 0, 1) := by decide +kernel
theorem dX10_slower_19 : decode cX10_slower 19 = .ok (.istore 4, 2) := by decide +kernel
theorem dX10_slower_21 : decode cX10_slower 21 = .ok (.iload 4, 2) := by decide +kernel
theorem dX10_slower_23 : decode cX10_slower 23 = .ok (.aload_n 0, 1) := by decide +kernel
theorem dX10_slower_24 : decode cX10_slower 24 = .ok (.getfield 115, 3) := by decide +kernel
theorem dX10_slower_27 : decode cX10_slower 27 = .ok (.if_icmp .ge 150, 3) := by decide +kernel
theorem dX10_slower_30 : decode cX10_slower 30 = .ok (.iconst 1, 1) := by decide +kernel
theorem dX10_slower_31 : decode cX10_slower 31 = .ok (.istore 5, 2) := by decide +kernel
theorem dX10_slower_33 : decode cX10_slower 33 = .ok (.iload 5, 2) := by decide +kernel
theorem dX10_slower_35 : decode cX10_slower 35 = .ok (.bipush 9, 2) := by decide +kernel
theorem dX10_slower_37 : decode cX10_slower 37 = .ok (.if_icmp .gt 134, 3) := by decide +kernel
theorem dX10_slower_40 : decode cX10_slower 40 = .ok (.aload_n 0, 1) := by decide +kernel
theorem dX10_slower_41 : decode cX10_slower 41 = .ok (.invokevirtual 238, 3) := by decide +kernel
theorem dX10_slower_44 : decode cX10_slower 44 = .ok (.aload_n 0, 1) := by decide +kernel
theorem dX10_slower_45 : decode cX10_slower 45 = .ok (.getfield 7, 3) := by decide +kernel
theorem dX10_slower_48 : decode cX10_slower 48 = .ok (.bipush 24, 2) := by decide +kernel
theorem dX10_slower_50 : decode cX10_slower 50 = .ok (.iload 4, 2) := by decide +kernel
theorem dX10_slower_52 : decode cX10_slower 52 = .ok (.iadd, 1) := by decide +kernel
theorem dX10_slower_53 : decode cX10_slower 53 = .ok (.dup2, 1) := by decide +kernel
theorem dX10_slower_54 : decode cX10_slower 54 = .ok (.iaload, 1) := by decide +kernel
theorem dX10_slower_55 : decode cX10_slower 55 = .ok (.iload 5, 2) := by decide +kernel
theorem dX10_slower_57 : decode cX10_slower 57 = .ok (.iadd, 1) := by decide +kernel
theorem dX10_slower_58 : decode cX10_slower 58 = .ok (.iastore, 1) := by decide +kernel
theorem dX10_slower_59 : decode cX10_slower 59 = .ok (.iconst 1, 1) := by decide +kernel
theorem dX10_slower_60 : decode cX10_slower 60 = .ok (.istore 6, 2) := by decide +kernel
theorem dX10_slower_62 : decode cX10_slower 62 = .ok (.iconst 0, 1) := by decide +kernel
theorem dX10_slower_63 : decode cX10_slower 63 = .ok (.istore 7, 2) := by decide +kernel
theorem dX10_slower_65 : decode cX10_slower 65 = .ok (.iload 7, 2) := by decide +kernel
theorem dX10_slower_67 : decode cX10_slower 67 = .ok (.aload_n 0, 1) := by decide +kernel
theorem dX10_slower_68 : decode cX10_slower 68 = .ok (.getfield 244, 3) := by decide +kernel
theorem dX10_slower_71 : decode cX10_slower 71 = .ok (.if_icmp .ge 59, 3) := by decide +kernel
theorem dX10_slower_74 : decode cX10_slower 74 = .ok (.iload 6, 2) := by decide +kernel
theorem dX10_slower_76 : decode cX10_slower 76 = .ok (.ifCond .eq 54, 3) := by decide +kernel
theorem dX10_slower_79 : decode cX10_slower 79 = .ok (.aload_n 0, 1) := by decide +kernel
theorem dX10_slower_80 : decode cX10_slower 80 = .ok (.iconst 1, 1) := by decide +kernel
theorem dX10_slower_81 : decode cX10_slower 81 = .ok (.aload_n 0, 1) := by decide +kernel
theorem dX10_slower_82 : decode cX10_slower 82 = .ok (.getfield 58, 3) := by decide +kernel
theorem dX10_slower_85 : decode cX10_slower 85 = .ok (.iload 7, 2) := by decide +kernel
theorem dX10_slower_87 : decode cX10_slower 87 = .ok (.iaload, 1) := by decide +kernel
theorem dX10_slower_88 : decode cX10_slower 88 = .ok (.aload_n 0, 1) := by decide +kernel
theorem dX10_slower_89 : decode cX10_slower 89 = .ok (.getfield 61, 3) := by decide +kernel
theorem dX10_slower_92 : decode cX10_slower 92 = .ok (.iload 7, 2) := by decide +kernel
theorem dX10_slower_94 : decode cX10_slower 94 = .ok (.iaload, 1) := by decide +kernel
theorem dX10_slower_95 : decode cX10_slower 95 = .ok (.invokevirtual 213, 3) := by decide +kernel
theorem dX10_slower_98 : decode cX10_slower 98 = .ok (.aload_n 0, 1) := by decide +kernel
theorem dX10_slower_99 : decode cX10_slower 99 = .ok (.getfield 64, 3) := by decide +kernel
theorem dX10_slower_102 : decode cX10_slower 102 = .ok (.iload 7, 2) := by decide +kernel
theorem dX10_slower_104 : decode cX10_slower 104 = .ok (.iaload, 1) := by decide +kernel
theorem dX10_slower_105 : decode cX10_slower 105 = .ok (.iconst 1, 1) := by decide +kernel
theorem dX10_slower_106 : decode cX10_slower 106 = .ok (.if_icmp .ne 7, 3) := by decide +kernel
theorem dX10_slower_109 : decode cX10_slower 109 = .ok (.iconst 1, 1) := by decide +kernel
theorem dX10_slower_110 : decode cX10_slower 110 = .ok (.goto 4, 3) := by decide +kernel
theorem dX10_slower_113 : decode cX10_slower 113 = .ok (.iconst 0, 1) := by decide +kernel
theorem dX10_slower_114 : decode cX10_slower 114 = .ok (.if_icmp .ne 7, 3) := by decide +kernel
theorem dX10_slower_117 : decode cX10_slower 117 = .ok (.iconst 1, 1) := by decide +kernel
theorem dX10_slower_118 : decode cX10_slower 118 = .ok (.goto 4, 3) := by decide +kernel
theorem dX10_slower_121 : decode cX10_slower 121 = .ok (.iconst 0, 1) := by decide +kernel
theorem dX10_slower_122 : decode cX10_slower 122 = .ok (.istore 6, 2) := by decide +kernel
theorem dX10_slower_124 : decode cX10_slower 124 = .ok (.iinc 7 1, 3) := by decide +kernel
theorem dX10_slower_127 : decode cX10_slower 127 = .ok (.goto (-62), 3) := by decide +kernel
theorem dX10_slower_130 : decode cX10_slower 130 = .ok (.iload 6, 2) := by decide +kernel
theorem dX10_slower_132 : decode cX10_slower 132 = .ok (.ifCond .eq 18, 3) := by decide +kernel
theorem dX10_slower_135 : decode cX10_slower 135 = .ok (.iload_n 2, 1) := by decide +kernel
theorem dX10_slower_136 : decode cX10_slower 136 = .ok (.ifCond .ne 14, 3) := by decide +kernel
theorem dX10_slower_139 : decode cX10_slower 139 = .ok (.bipush 10, 2) := by decide +kernel
theorem dX10_slower_141 : decode cX10_slower 141 = .ok (.iload 4, 2) := by decide +kernel
theorem dX10_slower_143 : decode cX10_slower 143 = .ok (.imul, 1) := by decide +kernel
theorem dX10_slower_144 : decode cX10_slower 144 = .ok (.iload 5, 2) := by decide +kernel
theorem dX10_slower_146 : decode cX10_slower 146 = .ok (.iadd, 1) := by decide +kernel
theorem dX10_slower_147 : decode cX10_slower 147 = .ok (.goto 4, 3) := by decide +kernel
theorem dX10_slower_150 : decode cX10_slower 150 = .ok (.iload_n 3, 1) := by decide +kernel
theorem dX10_slower_151 : decode cX10_slower 151 = .ok (.istore_n 3, 1) := by decide +kernel
theorem dX10_slower_152 : decode cX10_slower 152 = .ok (.iload_n 2, 1) := by decide +kernel
theorem dX10_slower_153 : decode cX10_slower 153 = .ok (.iload 6, 2) := by decide +kernel
theorem dX10_slower_155 : decode cX10_slower 155 = .ok (.ifCond .eq 7, 3) := by decide +kernel
theorem dX10_slower_158 : decode cX10_slower 158 = .ok (.iconst 1, 1) := by decide +kernel
theorem dX10_slower_159 : decode cX10_slower 159 = .ok (.goto 4, 3) := by decide +kernel
theorem dX10_slower_162 : decode cX10_slower 162 = .ok (.iconst 0, 1) := by decide +kernel
theorem dX10_slower_163 : decode cX10_slower 163 = .ok (.iadd, 1) := by decide +kernel
theorem dX10_slower_164 : decode cX10_slower 164 = .ok (.istore_n 2, 1) := by decide +kernel
theorem dX10_slower_165 : decode cX10_slower 165 = .ok (.iinc 5 1, 3) := by decide +kernel
theorem dX10_slower_168 : decode cX10_slower 168 = .ok (.goto (-135), 3) := by decide +kernel
theorem dX10_slower_171 : decode cX10_slower 171 = .ok (.iinc 4 1, 3) := by decide +kernel
theorem dX10_slower_174 : decode cX10_slower 174 = .ok (.goto (-153), 3) := by decide +kernel
theorem dX10_slower_177 : decode cX10_slower 177 = .ok (.iload_n 1, 1) := by decide +kernel
theorem dX10_slower_178 : decode cX10_slower 178 = .ok (.ifCond .ne 7, 3) := by decide +kernel
theorem dX10_slower_181 : decode cX10_slower 181 = .ok (.iload_n 2, 1) := by decide +kernel
theorem dX10_slower_182 : decode cX10_slower 182 = .ok (.goto 4, 3) := by decide +kernel
theorem dX10_slower_185 : decode cX10_slower 185 = .ok (.iload_n 3, 1) := by decide +kernel
theorem dX10_slower_186 : decode cX10_slower 186 = .ok (.ireturn, 1) := by decide +kernel
theorem dX10_factorial_0 : decode cX10_factorial 0 = .ok (.iconst 1, 1) := by decide +kernel
theorem dX10_factorial_1 : decode cX10_factorial 1 = .ok (.istore_n 1, 1) := by decide +kernel
theorem dX10_factorial_2 : decode cX10_factorial 2 = .ok (.iconst 2, 1) := by decide +kernel
theorem dX10_factorial_3 : decode cX10_factorial 3 = .ok (.istore_n 2, 1) := by decide +kernel
theorem dX10_factorial_4 : decode cX10_factorial 4 = .ok (.iload_n 2, 1) := by decide +kernel
theorem dX10_factorial_5 : decode cX10_factorial 5 = .ok (.iload_n 0, 1) := by decide +kernel
theorem dX10_factorial_6 : decode cX10_factorial 6 = .ok (.if_icmp .gt 13, 3) := by decide +kernel
theorem dX10_factorial_9 : decode cX10_factorial 9 = .ok (.iload_n 1, 1) := by decide +kernel
theorem dX10_factorial_10 : decode cX10_factorial 10 = .ok (.iload_n 2, 1) := by decide +kernel
theorem dX10_factorial_11 : decode cX10_factorial 11 = .ok (.imul, 1) := by decide +kernel
theorem dX10_factorial_12 : decode cX10_factorial 12 = .ok (.istore_n 1, 1) := by decide +kernel
theorem dX10_factorial_13 : decode cX10_factorial 13 = .ok (.iinc 2 1, 3) := by decide +kernel
theorem dX10_factorial_16 : decode cX10_factorial 16 = .ok (.goto (-12), 3) := by decide +kernel
theorem dX10_factorial_19 : decode cX10_factorial 19 = .ok (.iload_n 1, 1) := by decide +kernel
theorem dX10_factorial_20 : decode cX10_factorial 20 = .ok (.ireturn, 1) := by decide +kernel
theorem dX10_common_0 : decode cX10_common 0 = .ok (.iload_n 0, 1) := by decide +kernel
theorem dX10_common_1 : decode cX10_common 1 = .ok (.ifCond .ge 8, 3) := by decide +kernel
theorem dX10_common_4 : decode cX10_common 4 = .ok (.iload_n 0, 1) := by decide +kernel
theorem dX10_common_5 : decode cX10_common 5 = .ok (.ineg, 1) := by decide +kernel
theorem dX10_common_6 : decode cX10_common 6 = .ok (.goto 4, 3) := by decide +kernel
theorem dX10_common_9 : decode cX10_common 9 = .ok (.iload_n 0, 1) := by decide +kernel
theorem dX10_common_10 : decode cX10_common 10 = .ok (.istore_n 2, 1) := by decide +kernel
theorem dX10_common_11 : decode cX10_common 11 = .ok (.iload_n 1, 1) := by decide +kernel
theorem dX10_common_12 : decode cX10_common 12 = .ok (.istore_n 3, 1) := by decide +kernel
theorem dX10_common_13 : decode cX10_common 13 = .ok (.iload_n 3, 1) := by decide +kernel
theorem dX10_common_14 : decode cX10_common 14 = .ok (.ifCond .eq 16, 3) := by decide +kernel
theorem dX10_common_17 : decode cX10_common 17 = .ok (.iload_n 2, 1) := by decide +kernel
theorem dX10_common_18 : decode cX10_common 18 = .ok (.iload_n 3, 1) := by decide +kernel
theorem dX10_common_19 : decode cX10_common 19 = .ok (.irem, 1) := by decide +kernel
theorem dX10_common_20 : decode cX10_common 20 = .ok (.istore 4, 2) := by decide +kernel
theorem dX10_common_22 : decode cX10_common 22 = .ok (.iload_n 3, 1) := by decide +kernel
theorem dX10_common_23 : decode cX10_common 23 = .ok (.istore_n 2, 1) := by decide +kernel
theorem dX10_common_24 : decode cX10_common 24 = .ok (.iload 4, 2) := by decide +kernel
theorem dX10_common_26 : decode cX10_common 26 = .ok (.istore_n 3, 1) := by decide +kernel
theorem dX10_common_27 : decode cX10_common 27 = .ok (.goto (-14), 3) := by decide +kernel
theorem dX10_common_30 : decode cX10_common 30 = .ok (.iload_n 2, 1) := by decide +kernel
theorem dX10_common_31 : decode cX10_common 31 = .ok (.ireturn, 1) := by decide +kernel
set_option maxRecDepth 20000 in
theorem ggX10_greatestBy_X10_layTrial : GoodIn wsX10_greatestBy wsX10_layTrial := goodIn_r _ [7, 2, 21, 22, 23, 24, 25, 26, 27, 28, 29, 30, 31, 32, 33, 34, 35, 36, 37, 38, 39, 40, 41, 42, 43, 44, 45, 46, 47, 48, 49, 50, 51] (by decide +kernel) (by decide +kernel)
set_option maxRecDepth 20000 in
theorem gX10_greatestBy_X10_layTrial : GoodIn wsX10_greatestBy (wsV RX10 238 RX10 yX10_layTrial wsX10_layTrial) := goodIn_app (goodIn_of _ (by decide +kernel)) ggX10_greatestBy_X10_layTrial
set_option maxRecDepth 20000 in
theorem ggX10_greatestBy_X10_has : GoodIn wsX10_greatestBy wsX10_has := goodIn_r _ [10] (by decide +kernel) (by decide +kernel)
set_option maxRecDepth 20000 in
theorem gX10_greatestBy_X10_has : GoodIn wsX10_greatestBy (va_wsS RX10 134 yX10_has wsX10_has) := goodIn_app (goodIn_of _ (by decide +kernel)) ggX10_greatestBy_X10_has
set_option maxRecDepth 20000 in
theorem ggX10_greatestBy_X10_greatest : GoodIn wsX10_greatestBy wsX10_greatest := goodIn_r _ [14, 15, 16, 17, 18, 6, 19, 1, 20, 2, 8, 9, 10, 21, 22, 23, 24, 25, 26, 27, 28, 29, 30, 31, 32, 33, 34, 35, 36, 37, 38, 39, 40, 41, 42, 43, 44, 45, 46, 47, 48, 49, 50, 51] (by decide +kernel) (by decide +kernel)
set_option maxRecDepth 20000 in
theorem gX10_greatestBy_X10_greatest : GoodIn wsX10_greatestBy (wsV RX10 157 RX10 yX10_greatest wsX10_greatest) := goodIn_app (goodIn_of _ (by decide +kernel)) ggX10_greatestBy_X10_greatest
theorem dX10_greatestBy_0 : decode cX10_greatestBy 0 = .ok (.aload_n 0, 1) := by decide +kernel
theorem dX10_greatestBy_1 : decode cX10_greatestBy 1 = .ok (.invokevirtual 238, 3) := by decide +kernel
theorem dX10_greatestBy_4 : decode cX10_greatestBy 4 = .ok (.iconst 0, 1) := by decide +kernel
theorem dX10_greatestBy_5 : decode cX10_greatestBy 5 = .ok (.istore_n 2, 1) := by decide +kernel
theorem dX10_greatestBy_6 : decode cX10_greatestBy 6 = .ok (.iload_n 2, 1) := by decide +kernel
theorem dX10_greatestBy_7 : decode cX10_greatestBy 7 = .ok (.aload_n 0, 1) := by decide +kernel
theorem dX10_greatestBy_8 : decode cX10_greatestBy 8 = .ok (.getfield 115, 3) := by decide +kernel
theorem dX10_greatestBy_11 : decode cX10_greatestBy 11 = .ok (.if_icmp .ge 39, 3) := by decide +kernel
theorem dX10_greatestBy_14 : decode cX10_greatestBy 14 = .ok (.aload_n 0, 1) := by decide +kernel
theorem dX10_greatestBy_15 : decode cX10_greatestBy 15 = .ok (.getfield 7, 3) := by decide +kernel
theorem dX10_greatestBy_18 : decode cX10_greatestBy 18 = .ok (.bipush 24, 2) := by decide +kernel
theorem dX10_greatestBy_20 : decode cX10_greatestBy 20 = .ok (.iload_n 2, 1) := by decide +kernel
theorem dX10_greatestBy_21 : decode cX10_greatestBy 21 = .ok (.iadd, 1) := by decide +kernel
theorem dX10_greatestBy_22 : decode cX10_greatestBy 22 = .ok (.iload_n 1, 1) := by decide +kernel
theorem dX10_greatestBy_23 : decode cX10_greatestBy 23 = .ok (.iload_n 2, 1) := by decide +kernel
theorem dX10_greatestBy_24 : decode cX10_greatestBy 24 = .ok (.invokestatic 134, 3) := by decide +kernel
theorem dX10_greatestBy_27 : decode cX10_greatestBy 27 = .ok (.ifCond .eq 15, 3) := by decide +kernel
theorem dX10_greatestBy_30 : decode cX10_greatestBy 30 = .ok (.aload_n 0, 1) := by decide +kernel
theorem dX10_greatestBy_31 : decode cX10_greatestBy 31 = .ok (.getfield 7, 3) := by decide +kernel
theorem dX10_greatestBy_34 : decode cX10_greatestBy 34 = .ok (.bipush 8, 2) := by decide +kernel
theorem dX10_greatestBy_36 : decode cX10_greatestBy 36 = .ok (.iload_n 2, 1) := by decide +kernel
theorem dX10_greatestBy_37 : decode cX10_greatestBy 37 = .ok (.iadd, 1) := by decide +kernel
theorem dX10_greatestBy_38 : decode cX10_greatestBy 38 = .ok (.iaload, 1) := by decide +kernel
theorem dX10_greatestBy_39 : decode cX10_greatestBy 39 = .ok (.goto 4, 3) := by decide +kernel
theorem dX10_greatestBy_42 : decode cX10_greatestBy 42 = .ok (.iconst 0, 1) := by decide +kernel
theorem dX10_greatestBy_43 : decode cX10_greatestBy 43 = .ok (.iastore, 1) := by decide +kernel
theorem dX10_greatestBy_44 : decode cX10_greatestBy 44 = .ok (.iinc 2 1, 3) := by decide +kernel
theorem dX10_greatestBy_47 : decode cX10_greatestBy 47 = .ok (.goto (-41), 3) := by decide +kernel
theorem dX10_greatestBy_50 : decode cX10_greatestBy 50 = .ok (.aload_n 0, 1) := by decide +kernel
theorem dX10_greatestBy_51 : decode cX10_greatestBy 51 = .ok (.iconst 1, 1) := by decide +kernel
theorem dX10_greatestBy_52 : decode cX10_greatestBy 52 = .ok (.invokevirtual 157, 3) := by decide +kernel
theorem dX10_greatestBy_55 : decode cX10_greatestBy 55 = .ok (.ireturn, 1) := by decide +kernel
set_option maxRecDepth 20000 in
theorem ggX10_share_X10_isGate : GoodIn wsX10_share wsX10_isGate := goodIn_r _ [6, 1, 7, 8, 5, 9, 41, 42, 43, 44, 45, 46, 47, 48, 49, 50, 51, 52, 53, 54, 55, 56, 57, 58, 59, 60, 61, 62, 63, 64, 65, 66, 67, 68, 69, 70, 71] (by decide +kernel) (by decide +kernel)
set_option maxRecDepth 20000 in
theorem gX10_share_X10_isGate : GoodIn wsX10_share (wsV RX10 127 RX10 yX10_isGate wsX10_isGate) := goodIn_app (goodIn_of _ (by decide +kernel)) ggX10_share_X10_isGate
set_option maxRecDepth 20000 in
theorem ggX10_share_X10_has : GoodIn wsX10_share wsX10_has := goodIn_r _ [12] (by decide +kernel) (by decide +kernel)
set_option maxRecDepth 20000 in
theorem gX10_share_X10_has : GoodIn wsX10_share (va_wsS RX10 134 yX10_has wsX10_has) := goodIn_app (goodIn_of _ (by decide +kernel)) ggX10_share_X10_has
set_option maxRecDepth 20000 in
theorem ggX10_share_X10_ones : GoodIn wsX10_share wsX10_ones := goodIn_r _ [15] (by decide +kernel) (by decide +kernel)
set_option maxRecDepth 20000 in
theorem gX10_share_X10_ones : GoodIn wsX10_share (va_wsS RX10 150 yX10_ones wsX10_ones) := goodIn_app (goodIn_of _ (by decide +kernel)) ggX10_share_X10_ones
set_option maxRecDepth 20000 in
theorem ggX10_share_X10_factorial : GoodIn wsX10_share wsX10_factorial := goodIn_r _ [18] (by decide +kernel) (by decide +kernel)
set_option maxRecDepth 20000 in
theorem gX10_share_X10_factorial : GoodIn wsX10_share (va_wsS RX10 247 yX10_factorial wsX10_factorial) := goodIn_app (goodIn_of _ (by decide +kernel)) ggX10_share_X10_factorial
set_option maxRecDepth 20000 in
theorem ggX10_share_X10_greatestBy : GoodIn wsX10_share wsX10_greatestBy := goodIn_r _ [22, 1, 23, 24, 25, 26, 5, 27, 10, 11, 12, 28, 29, 30, 31, 32, 33, 34, 35, 36, 37, 41, 42, 43, 44, 45, 46, 47, 48, 49, 50, 51, 52, 53, 54, 55, 56, 57, 58, 59, 60, 61, 62, 63, 64, 65, 66, 67, 68, 69, 70, 71] (by decide +kernel) (by decide +kernel)
set_option maxRecDepth 20000 in
theorem gX10_share_X10_greatestBy : GoodIn wsX10_share (wsV RX10 250 RX10 yX10_greatestBy wsX10_greatestBy) := goodIn_app (goodIn_of _ (by decide +kernel)) ggX10_share_X10_greatestBy
set_option maxRecDepth 20000 in
theorem ggX10_share_X10_common : GoodIn wsX10_share wsX10_common := goodIn_r _ [40] (by decide +kernel) (by decide +kernel)
set_option maxRecDepth 20000 in
theorem gX10_share_X10_common : GoodIn wsX10_share (va_wsS RX10 253 yX10_common wsX10_common) := goodIn_app (goodIn_of _ (by decide +kernel)) ggX10_share_X10_common
theorem dX10_share_0 : decode cX10_share 0 = .ok (.aload_n 0, 1) := by decide +kernel
theorem dX10_share_1 : decode cX10_share 1 = .ok (.iload_n 1, 1) := by decide +kernel
theorem dX10_share_2 : decode cX10_share 2 = .ok (.invokevirtual 127, 3) := by decide +kernel
theorem dX10_share_5 : decode cX10_share 5 = .ok (.ifCond .ne 5, 3) := by decide +kernel
theorem dX10_share_8 : decode cX10_share 8 = .ok (.iconst (-1), 1) := by decide +kernel
theorem dX10_share_9 : decode cX10_share 9 = .ok (.ireturn, 1) := by decide +kernel
theorem dX10_share_10 : decode cX10_share 10 = .ok (.iconst 0, 1) := by decide +kernel
theorem dX10_share_11 : decode cX10_share 11 = .ok (.istore_n 3, 1) := by decide +kernel
theorem dX10_share_12 : decode cX10_share 12 = .ok (.iconst 0, 1) := by decide +kernel
theorem dX10_share_13 : decode cX10_share 13 = .ok (.istore 4, 2) := by decide +kernel
theorem dX10_share_15 : decode cX10_share 15 = .ok (.iload 4, 2) := by decide +kernel
theorem dX10_share_17 : decode cX10_share 17 = .ok (.iconst 1, 1) := by decide +kernel
theorem dX10_share_18 : decode cX10_share 18 = .ok (.aload_n 0, 1) := by decide +kernel
theorem dX10_share_19 : decode cX10_share 19 = .ok (.getfield 115, 3) := by decide +kernel
theorem dX10_share_22 : decode cX10_share 22 = .ok (.ishl, 1) := by decide +kernel
theorem dX10_share_23 : decode cX10_share 23 = .ok (.if_icmp .ge 67, 3) := by decide +kernel
theorem dX10_share_26 : decode cX10_share 26 = .ok (.iload 4, 2) := by decide +kernel
theorem dX10_share_28 : decode cX10_share 28 = .ok (.iload_n 1, 1) := by decide +kernel
theorem dX10_share_29 : decode cX10_share 29 = .ok (.invokestatic 134, 3) := by decide +kernel
theorem dX10_share_32 : decode cX10_share 32 = .ok (.ifCond .ne 52, 3) := by decide +kernel
theorem dX10_share_35 : decode cX10_share 35 = .ok (.iload 4, 2) := by decide +kernel
theorem dX10_share_37 : decode cX10_share 37 = .ok (.invokestatic 150, 3) := by decide +kernel
theorem dX10_share_40 : decode cX10_share 40 = .ok (.invokestatic 247, 3) := by decide +kernel
theorem dX10_share_43 : decode cX10_share 43 = .ok (.aload_n 0, 1) := by decide +kernel
theorem dX10_share_44 : decode cX10_share 44 = .ok (.getfield 115, 3) := by decide +kernel
theorem dX10_share_47 : decode cX10_share 47 = .ok (.iconst 1, 1) := by decide +kernel
theorem dX10_share_48 : decode cX10_share 48 = .ok (.isub, 1) := by decide +kernel
theorem dX10_share_49 : decode cX10_share 49 = .ok (.iload 4, 2) := by decide +kernel
theorem dX10_share_51 : decode cX10_share 51 = .ok (.invokestatic 150, 3) := by decide +kernel
theorem dX10_share_54 : decode cX10_share 54 = .ok (.isub, 1) := by decide +kernel
theorem dX10_share_55 : decode cX10_share 55 = .ok (.invokestatic 247, 3) := by decide +kernel
theorem dX10_share_58 : decode cX10_share 58 = .ok (.imul, 1) := by decide +kernel
theorem dX10_share_59 : decode cX10_share 59 = .ok (.istore 5, 2) := by decide +kernel
theorem dX10_share_61 : decode cX10_share 61 = .ok (.iload_n 3, 1) := by decide +kernel
theorem dX10_share_62 : decode cX10_share 62 = .ok (.iload 5, 2) := by decide +kernel
theorem dX10_share_64 : decode cX10_share 64 = .ok (.aload_n 0, 1) := by decide +kernel
theorem dX10_share_65 : decode cX10_share 65 = .ok (.iload 4, 2) := by decide +kernel
theorem dX10_share_67 : decode cX10_share 67 = .ok (.iconst 1, 1) := by decide +kernel
theorem dX10_share_68 : decode cX10_share 68 = .ok (.iload_n 1, 1) := by decide +kernel
theorem dX10_share_69 : decode cX10_share 69 = .ok (.ishl, 1) := by decide +kernel
theorem dX10_share_70 : decode cX10_share 70 = .ok (.ior, 1) := by decide +kernel
theorem dX10_share_71 : decode cX10_share 71 = .ok (.invokevirtual 250, 3) := by decide +kernel
theorem dX10_share_74 : decode cX10_share 74 = .ok (.aload_n 0, 1) := by decide +kernel
theorem dX10_share_75 : decode cX10_share 75 = .ok (.iload 4, 2) := by decide +kernel
theorem dX10_share_77 : decode cX10_share 77 = .ok (.invokevirtual 250, 3) := by decide +kernel
theorem dX10_share_80 : decode cX10_share 80 = .ok (.isub, 1) := by decide +kernel
theorem dX10_share_81 : decode cX10_share 81 = .ok (.imul, 1) := by decide +kernel
theorem dX10_share_82 : decode cX10_share 82 = .ok (.iadd, 1) := by decide +kernel
theorem dX10_share_83 : decode cX10_share 83 = .ok (.istore_n 3, 1) := by decide +kernel
theorem dX10_share_84 : decode cX10_share 84 = .ok (.iinc 4 1, 3) := by decide +kernel
theorem dX10_share_87 : decode cX10_share 87 = .ok (.goto (-72), 3) := by decide +kernel
theorem dX10_share_90 : decode cX10_share 90 = .ok (.iload_n 3, 1) := by decide +kernel
theorem dX10_share_91 : decode cX10_share 91 = .ok (.aload_n 0, 1) := by decide +kernel
theorem dX10_share_92 : decode cX10_share 92 = .ok (.getfield 115, 3) := by decide +kernel
theorem dX10_share_95 : decode cX10_share 95 = .ok (.invokestatic 247, 3) := by decide +kernel
theorem dX10_share_98 : decode cX10_share 98 = .ok (.invokestatic 253, 3) := by decide +kernel
theorem dX10_share_101 : decode cX10_share 101 = .ok (.istore 4, 2) := by decide +kernel
theorem dX10_share_103 : decode cX10_share 103 = .ok (.iload_n 2, 1) := by decide +kernel
theorem dX10_share_104 : decode cX10_share 104 = .ok (.ifCond .eq 10, 3) := by decide +kernel
theorem dX10_share_107 : decode cX10_share 107 = .ok (.iload_n 3, 1) := by decide +kernel
theorem dX10_share_108 : decode cX10_share 108 = .ok (.iload 4, 2) := by decide +kernel
theorem dX10_share_110 : decode cX10_share 110 = .ok (.idiv, 1) := by decide +kernel
theorem dX10_share_111 : decode cX10_share 111 = .ok (.goto 13, 3) := by decide +kernel
theorem dX10_share_114 : decode cX10_share 114 = .ok (.aload_n 0, 1) := by decide +kernel
theorem dX10_share_115 : decode cX10_share 115 = .ok (.getfield 115, 3) := by decide +kernel
theorem dX10_share_118 : decode cX10_share 118 = .ok (.invokestatic 247, 3) := by decide +kernel
theorem dX10_share_121 : decode cX10_share 121 = .ok (.iload 4, 2) := by decide +kernel
theorem dX10_share_123 : decode cX10_share 123 = .ok (.idiv, 1) := by decide +kernel
theorem dX10_share_124 : decode cX10_share 124 = .ok (.ireturn, 1) := by decide +kernel
set_option maxRecDepth 20000 in
theorem ggX10_slows_X10_isPair : GoodIn wsX10_slows wsX10_isPair := goodIn_r _ [9, 10, 11, 12, 13, 8, 14, 56, 57, 58, 59, 60, 61, 62, 63, 64, 65, 66, 67, 68, 69, 70, 71, 72, 73, 74, 75, 76, 77, 78, 79, 80, 81, 82, 83, 84, 85, 86] (by decide +kernel) (by decide +kernel)
set_option maxRecDepth 20000 in
theorem gX10_slows_X10_isPair : GoodIn wsX10_slows (wsV RX10 170 RX10 yX10_isPair wsX10_isPair) := goodIn_app (goodIn_of _ (by decide +kernel)) ggX10_slows_X10_isPair
set_option maxRecDepth 20000 in
theorem ggX10_slows_X10_in : GoodIn wsX10_slows wsX10_in := goodIn_r _ [14] (by decide +kernel) (by decide +kernel)
set_option maxRecDepth 20000 in
theorem gX10_slows_X10_in : GoodIn wsX10_slows (va_wsS RX10 76 yX10_in wsX10_in) := goodIn_app (goodIn_of _ (by decide +kernel)) ggX10_slows_X10_in
set_option maxRecDepth 20000 in
theorem ggX10_slows_X10_layTrial : GoodIn wsX10_slows wsX10_layTrial := goodIn_r _ [18, 4, 56, 57, 58, 59, 60, 61, 62, 63, 64, 65, 66, 67, 68, 69, 70, 71, 72, 73, 74, 75, 76, 77, 78, 79, 80, 81, 82, 83, 84, 85, 86] (by decide +kernel) (by decide +kernel)
set_option maxRecDepth 20000 in
theorem gX10_slows_X10_layTrial : GoodIn wsX10_slows (wsV RX10 238 RX10 yX10_layTrial wsX10_layTrial) := goodIn_app (goodIn_of _ (by decide +kernel)) ggX10_slows_X10_layTrial
set_option maxRecDepth 20000 in
theorem ggX10_slows_X10_has : GoodIn wsX10_slows wsX10_has := goodIn_r _ [21] (by decide +kernel) (by decide +kernel)
set_option maxRecDepth 20000 in
theorem gX10_slows_X10_has : GoodIn wsX10_slows (va_wsS RX10 134 yX10_has wsX10_has) := goodIn_app (goodIn_of _ (by decide +kernel)) ggX10_slows_X10_has
set_option maxRecDepth 20000 in
theorem ggX10_slows_X10_isLate : GoodIn wsX10_slows wsX10_isLate := goodIn_r _ [25, 3, 26, 27, 28, 29, 8, 30, 11, 31, 4, 32, 33, 34, 35, 36, 37, 38, 39, 40, 41, 42, 43, 44, 45, 46, 47, 48, 49, 50, 51, 52, 56, 57, 58, 59, 60, 61, 62, 63, 64, 65, 66, 67, 68, 69, 70, 71, 72, 73, 74, 75, 76, 77, 78, 79, 80, 81, 82, 83, 84, 85, 86] (by decide +kernel) (by decide +kernel)
set_option maxRecDepth 20000 in
theorem gX10_slows_X10_isLate : GoodIn wsX10_slows (wsV RX10 213 RX10 yX10_isLate wsX10_isLate) := goodIn_app (goodIn_of _ (by decide +kernel)) ggX10_slows_X10_isLate
set_option maxRecDepth 20000 in
theorem ggX10_slows_X10_common : GoodIn wsX10_slows wsX10_common := goodIn_r _ [55] (by decide +kernel) (by decide +kernel)
set_option maxRecDepth 20000 in
theorem gX10_slows_X10_common : GoodIn wsX10_slows (va_wsS RX10 253 yX10_common wsX10_common) := goodIn_app (goodIn_of _ (by decide +kernel)) ggX10_slows_X10_common
theorem dX10_slows_0 : decode cX10_slows 0 = .ok (.aload_n 0, 1) := by decide +kernel
theorem dX10_slows_1 : decode cX10_slows 1 = .ok (.iload_n 1, 1) := by decide +kernel
theorem dX10_slows_2 : decode cX10_slows 2 = .ok (.invokevirtual 170, 3) := by decide +kernel
theorem dX10_slows_5 : decode cX10_slows 5 = .ok (.ifCond .eq 27, 3) := by decide +kernel
theorem dX10_slows_8 : decode cX10_slows 8 = .ok (.iload_n 2, 1) := by decide +kernel
theorem dX10_slows_9 : decode cX10_slows 9 = .ok (.i2l, 1) := by decide +kernel
theorem dX10_slows_10 : decode cX10_slows 10 = .ok (.lconst 0, 1) := by decide +kernel
theorem dX10_slows_11 : decode cX10_slows 11 = .ok (.ldc2_w 208, 3) := by decide +kernel
theorem dX10_slows_14 : decode cX10_slows 14 = .ok (.invokestatic 76, 3) := by decide +kernel
theorem dX10_slows_17 : decode cX10_slows 17 = .ok (.ifCond .eq 15, 3) := by decide +kernel
theorem dX10_slows_20 : decode cX10_slows 20 = .ok (.iload_n 3, 1) := by decide +kernel
theorem dX10_slows_21 : decode cX10_slows 21 = .ok (.i2l, 1) := by decide +kernel
theorem dX10_slows_22 : decode cX10_slows 22 = .ok (.lconst 0, 1) := by decide +kernel
theorem dX10_slows_23 : decode cX10_slows 23 = .ok (.ldc2_w 256, 3) := by decide +kernel
theorem dX10_slows_26 : decode cX10_slows 26 = .ok (.invokestatic 76, 3) := by decide +kernel
theorem dX10_slows_29 : decode cX10_slows 29 = .ok (.ifCond .ne 6, 3) := by decide +kernel
theorem dX10_slows_32 : decode cX10_slows 32 = .ok (.bipush (-2), 2) := by decide +kernel
theorem dX10_slows_34 : decode cX10_slows 34 = .ok (.ireturn, 1) := by decide +kernel
theorem dX10_slows_35 : decode cX10_slows 35 = .ok (.aload_n 0, 1) := by decide +kernel
theorem dX10_slows_36 : decode cX10_slows 36 = .ok (.getfield 115, 3) := by decide +kernel
theorem dX10_slows_39 : decode cX10_slows 39 = .ok (.ifCond .ne 6, 3) := by decide +kernel
theorem dX10_slows_42 : decode cX10_slows 42 = .ok (.bipush (-3), 2) := by decide +kernel
theorem dX10_slows_44 : decode cX10_slows 44 = .ok (.ireturn, 1) := by decide +kernel
theorem dX10_slows_45 : decode cX10_slows 45 = .ok (.iconst 0, 1) := by decide +kernel
theorem dX10_slows_46 : decode cX10_slows 46 = .ok (.istore 5, 2) := by decide +kernel
theorem dX10_slows_48 : decode cX10_slows 48 = .ok (.iconst 0, 1) := by decide +kernel
theorem dX10_slows_49 : decode cX10_slows 49 = .ok (.istore 6, 2) := by decide +kernel
theorem dX10_slows_51 : decode cX10_slows 51 = .ok (.iconst 0, 1) := by decide +kernel
theorem dX10_slows_52 : decode cX10_slows 52 = .ok (.istore 7, 2) := by decide +kernel
theorem dX10_slows_54 : decode cX10_slows 54 = .ok (.iload 7, 2) := by decide +kernel
theorem dX10_slows_56 : decode cX10_slows 56 = .ok (.iconst 1, 1) := by decide +kernel
theorem dX10_slows_57 : decode cX10_slows 57 = .ok (.aload_n 0, 1) := by decide +kernel
theorem dX10_slows_58 : decode cX10_slows 58 = .ok (.getfield 115, 3) := by decide +kernel
theorem dX10_slows_61 : decode cX10_slows 61 = .ok (.ishl, 1) := by decide +kernel
theorem dX10_slows_62 : decode cX10_slows 62 = .ok (.if_icmp .ge 118, 3) := by decide +kernel
theorem dX10_slows_65 : decode cX10_slows 65 = .ok (.aload_n 0, 1) := by decide +kernel
theorem dX10_slows_66 : decode cX10_slows 66 = .ok (.invokevirtual 238, 3) := by decide +kernel
theorem dX10_slows_69 : decode cX10_slows 69 = .ok (.iconst 1, 1) := by decide +kernel
theorem dX10_slows_70 : decode cX10_slows 70 = .ok (.istore 8, 2) := by decide +kernel
theorem dX10_slows_72 : decode cX10_slows 72 = .ok (.iconst 0, 1) := by decide +kernel
theorem dX10_slows_73 : decode cX10_slows 73 = .ok (.istore 9, 2) := by decide +kernel
theorem dX10_slows_75 : decode cX10_slows 75 = .ok (.iload 9, 2) := by decide +kernel
theorem dX10_slows_77 : decode cX10_slows 77 = .ok (.aload_n 0, 1) := by decide +kernel
theorem dX10_slows_78 : decode cX10_slows 78 = .ok (.getfield 115, 3) := by decide +kernel
theorem dX10_slows_81 : decode cX10_slows 81 = .ok (.if_icmp .ge 60, 3) := by decide +kernel
theorem dX10_slows_84 : decode cX10_slows 84 = .ok (.iload 8, 2) := by decide +kernel
theorem dX10_slows_86 : decode cX10_slows 86 = .ok (.iload 7, 2) := by decide +kernel
theorem dX10_slows_88 : decode cX10_slows 88 = .ok (.iload 9, 2) := by decide +kernel
theorem dX10_slows_90 : decode cX10_slows 90 = .ok (.invokestatic 134, 3) := by decide +kernel
theorem dX10_slows_93 : decode cX10_slows 93 = .ok (.ifCond .eq 7, 3) := by decide +kernel
theorem dX10_slows_96 : decode cX10_slows 96 = .ok (.iload_n 3, 1) := by decide +kernel
theorem dX10_slows_97 : decode cX10_slows 97 = .ok (.goto 7, 3) := by decide +kernel
theorem dX10_slows_100 : decode cX10_slows 100 = .ok (.bipush 10, 2) := by decide +kernel
theorem dX10_slows_102 : decode cX10_slows 102 = .ok (.iload_n 3, 1) := by decide +kernel
theorem dX10_slows_103 : decode cX10_slows 103 = .ok (.isub, 1) := by decide +kernel
theorem dX10_slows_104 : decode cX10_slows 104 = .ok (.imul, 1) := by decide +kernel
theorem dX10_slows_105 : decode cX10_slows 105 = .ok (.istore 8, 2) := by decide +kernel
theorem dX10_slows_107 : decode cX10_slows 107 = .ok (.aload_n 0, 1) := by decide +kernel
theorem dX10_slows_108 : decode cX10_slows 108 = .ok (.getfield 7, 3) := by decide +kernel
theorem dX10_slows_111 : decode cX10_slows 111 = .ok (.bipush 24, 2) := by decide +kernel
theorem dX10_slows_113 : decode cX10_slows 113 = .ok (.iload 9, 2) := by decide +kernel
theorem dX10_slows_115 : decode cX10_slows 115 = .ok (.iadd, 1) := by decide +kernel
theorem dX10_slows_116 : decode cX10_slows 116 = .ok (.dup2, 1) := by decide +kernel
theorem dX10_slows_117 : decode cX10_slows 117 = .ok (.iaload, 1) := by decide +kernel
theorem dX10_slows_118 : decode cX10_slows 118 = .ok (.iload 7, 2) := by decide +kernel
theorem dX10_slows_120 : decode cX10_slows 120 = .ok (.iload 9, 2) := by decide +kernel
theorem dX10_slows_122 : decode cX10_slows 122 = .ok (.invokestatic 134, 3) := by decide +kernel
theorem dX10_slows_125 : decode cX10_slows 125 = .ok (.ifCond .eq 7, 3) := by decide +kernel
theorem dX10_slows_128 : decode cX10_slows 128 = .ok (.iconst 3, 1) := by decide +kernel
theorem dX10_slows_129 : decode cX10_slows 129 = .ok (.goto 4, 3) := by decide +kernel
theorem dX10_slows_132 : decode cX10_slows 132 = .ok (.iconst 0, 1) := by decide +kernel
theorem dX10_slows_133 : decode cX10_slows 133 = .ok (.iadd, 1) := by decide +kernel
theorem dX10_slows_134 : decode cX10_slows 134 = .ok (.iastore, 1) := by decide +kernel
theorem dX10_slows_135 : decode cX10_slows 135 = .ok (.iinc 9 1, 3) := by decide +kernel
theorem dX10_slows_138 : decode cX10_slows 138 = .ok (.goto (-63), 3) := by decide +kernel
theorem dX10_slows_141 : decode cX10_slows 141 = .ok (.iload 6, 2) := by decide +kernel
theorem dX10_slows_143 : decode cX10_slows 143 = .ok (.iload 8, 2) := by decide +kernel
theorem dX10_slows_145 : decode cX10_slows 145 = .ok (.iadd, 1) := by decide +kernel
theorem dX10_slows_146 : decode cX10_slows 146 = .ok (.istore 6, 2) := by decide +kernel
theorem dX10_slows_148 : decode cX10_slows 148 = .ok (.iload 5, 2) := by decide +kernel
theorem dX10_slows_150 : decode cX10_slows 150 = .ok (.iload 8, 2) := by decide +kernel
theorem dX10_slows_152 : decode cX10_slows 152 = .ok (.ifCond .le 18, 3) := by decide +kernel
theorem dX10_slows_155 : decode cX10_slows 155 = .ok (.aload_n 0, 1) := by decide +kernel
theorem dX10_slows_156 : decode cX10_slows 156 = .ok (.iconst 1, 1) := by decide +kernel
theorem dX10_slows_157 : decode cX10_slows 157 = .ok (.iload_n 1, 1) := by decide +kernel
theorem dX10_slows_158 : decode cX10_slows 158 = .ok (.iload_n 2, 1) := by decide +kernel
theorem dX10_slows_159 : decode cX10_slows 159 = .ok (.invokevirtual 213, 3) := by decide +kernel
theorem dX10_slows_162 : decode cX10_slows 162 = .ok (.ifCond .eq 8, 3) := by decide +kernel
theorem dX10_slows_165 : decode cX10_slows 165 = .ok (.iload 8, 2) := by decide +kernel
theorem dX10_slows_167 : decode cX10_slows 167 = .ok (.goto 4, 3) := by decide +kernel
theorem dX10_slows_170 : decode cX10_slows 170 = .ok (.iconst 0, 1) := by decide +kernel
theorem dX10_slows_171 : decode cX10_slows 171 = .ok (.iadd, 1) := by decide +kernel
theorem dX10_slows_172 : decode cX10_slows 172 = .ok (.istore 5, 2) := by decide +kernel
theorem dX10_slows_174 : decode cX10_slows 174 = .ok (.iinc 7 1, 3) := by decide +kernel
theorem dX10_slows_177 : decode cX10_slows 177 = .ok (.goto (-123), 3) := by decide +kernel
theorem dX10_slows_180 : decode cX10_slows 180 = .ok (.iload 5, 2) := by decide +kernel
theorem dX10_slows_182 : decode cX10_slows 182 = .ok (.iload 6, 2) := by decide +kernel
theorem dX10_slows_184 : decode cX10_slows 184 = .ok (.invokestatic 253, 3) := by decide +kernel
theorem dX10_slows_187 : decode cX10_slows 187 = .ok (.istore 7, 2) := by decide +kernel
theorem dX10_slows_189 : decode cX10_slows 189 = .ok (.iload 4, 2) := by decide +kernel
theorem dX10_slows_191 : decode cX10_slows 191 = .ok (.ifCond .eq 11, 3) := by decide +kernel
theorem dX10_slows_194 : decode cX10_slows 194 = .ok (.iload 5, 2) := by decide +kernel
theorem dX10_slows_196 : decode cX10_slows 196 = .ok (.iload 7, 2) := by decide +kernel
theorem dX10_slows_198 : decode cX10_slows 198 = .ok (.idiv, 1) := by decide +kernel
theorem dX10_slows_199 : decode cX10_slows 199 = .ok (.goto 8, 3) := by decide +kernel
theorem dX10_slows_202 : decode cX10_slows 202 = .ok (.iload 6, 2) := by decide +kernel
theorem dX10_slows_204 : decode cX10_slows 204 = .ok (.iload 7, 2) := by decide +kernel
theorem dX10_slows_206 : decode cX10_slows 206 = .ok (.idiv, 1) := by decide +kernel
theorem dX10_slows_207 : decode cX10_slows 207 = .ok (.ireturn, 1) := by decide +kernel
theorem dX10_seed_0 : decode cX10_seed 0 = .ok (.aload_n 0, 1) := by decide +kernel
theorem dX10_seed_1 : decode cX10_seed 1 = .ok (.getfield 258, 3) := by decide +kernel
theorem dX10_seed_4 : decode cX10_seed 4 = .ok (.lstore_n 3, 1) := by decide +kernel
theorem dX10_seed_5 : decode cX10_seed 5 = .ok (.aload_n 0, 1) := by decide +kernel
theorem dX10_seed_6 : decode cX10_seed 6 = .ok (.lload_n 1, 1) := by decide +kernel
theorem dX10_seed_7 : decode cX10_seed 7 = .ok (.putfield 258, 3) := by decide +kernel
theorem dX10_seed_10 : decode cX10_seed 10 = .ok (.lload_n 3, 1) := by decide +kernel
theorem dX10_seed_11 : decode cX10_seed 11 = .ok (.lreturn, 1) := by decide +kernel
set_option maxRecDepth 20000 in
theorem ggX10_drawn_X10_in : GoodIn wsX10_drawn wsX10_in := goodIn_r _ [12] (by decide +kernel) (by decide +kernel)
set_option maxRecDepth 20000 in
theorem gX10_drawn_X10_in : GoodIn wsX10_drawn (va_wsS RX10 76 yX10_in wsX10_in) := goodIn_app (goodIn_of _ (by decide +kernel)) ggX10_drawn_X10_in
set_option maxRecDepth 20000 in
theorem ggX10_drawn_X10_findPair : GoodIn wsX10_drawn wsX10_findPair := goodIn_r _ [16, 2, 17, 18, 19, 20, 21, 22, 23, 24, 25, 11, 26, 27, 28, 29, 30, 31, 32, 40, 41, 42, 43, 44, 45, 46, 47, 48, 49, 50, 51, 52, 53, 54, 55, 56, 57, 58, 59, 60, 61, 62, 63, 64, 65, 66, 67, 68, 69, 70] (by decide +kernel) (by decide +kernel)
set_option maxRecDepth 20000 in
theorem gX10_drawn_X10_findPair : GoodIn wsX10_drawn (wsV RX10 173 RX10 yX10_findPair wsX10_findPair) := goodIn_app (goodIn_of _ (by decide +kernel)) ggX10_drawn_X10_findPair
set_option maxRecDepth 20000 in
theorem ggX10_drawn_X10_testsOf : GoodIn wsX10_drawn wsX10_testsOf := goodIn_r _ [36, 17, 18, 20, 21, 23, 22, 19, 37, 38, 11, 39, 40, 41, 42, 43, 44, 45, 46, 47, 48, 49, 50, 51, 52, 53, 54, 55, 56, 57, 58, 59, 60, 61, 62, 63, 64, 65, 66, 67, 68, 69, 70] (by decide +kernel) (by decide +kernel)
set_option maxRecDepth 20000 in
theorem gX10_drawn_X10_testsOf : GoodIn wsX10_drawn (wsV RX10 177 RX10 yX10_testsOf wsX10_testsOf) := goodIn_app (goodIn_of _ (by decide +kernel)) ggX10_drawn_X10_testsOf
theorem dX10_drawn_0 : decode cX10_drawn 0 = .ok (.iload_n 1, 1) := by decide +kernel
theorem dX10_drawn_1 : decode cX10_drawn 1 = .ok (.i2l, 1) := by decide +kernel
theorem dX10_drawn_2 : decode cX10_drawn 2 = .ok (.lconst 1, 1) := by decide +kernel
theorem dX10_drawn_3 : decode cX10_drawn 3 = .ok (.ldc2_w 262, 3) := by decide +kernel
theorem dX10_drawn_6 : decode cX10_drawn 6 = .ok (.invokestatic 76, 3) := by decide +kernel
theorem dX10_drawn_9 : decode cX10_drawn 9 = .ok (.ifCond .ne 6, 3) := by decide +kernel
theorem dX10_drawn_12 : decode cX10_drawn 12 = .ok (.bipush (-2), 2) := by decide +kernel
theorem dX10_drawn_14 : decode cX10_drawn 14 = .ok (.ireturn, 1) := by decide +kernel
theorem dX10_drawn_15 : decode cX10_drawn 15 = .ok (.iconst 1, 1) := by decide +kernel
theorem dX10_drawn_16 : decode cX10_drawn 16 = .ok (.aload_n 0, 1) := by decide +kernel
theorem dX10_drawn_17 : decode cX10_drawn 17 = .ok (.getfield 112, 3) := by decide +kernel
theorem dX10_drawn_20 : decode cX10_drawn 20 = .ok (.ishl, 1) := by decide +kernel
theorem dX10_drawn_21 : decode cX10_drawn 21 = .ok (.iconst 1, 1) := by decide +kernel
theorem dX10_drawn_22 : decode cX10_drawn 22 = .ok (.isub, 1) := by decide +kernel
theorem dX10_drawn_23 : decode cX10_drawn 23 = .ok (.istore_n 2, 1) := by decide +kernel
theorem dX10_drawn_24 : decode cX10_drawn 24 = .ok (.iconst 0, 1) := by decide +kernel
theorem dX10_drawn_25 : decode cX10_drawn 25 = .ok (.istore_n 3, 1) := by decide +kernel
theorem dX10_drawn_26 : decode cX10_drawn 26 = .ok (.iconst 0, 1) := by decide +kernel
theorem dX10_drawn_27 : decode cX10_drawn 27 = .ok (.istore 4, 2) := by decide +kernel
theorem dX10_drawn_29 : decode cX10_drawn 29 = .ok (.iload 4, 2) := by decide +kernel
theorem dX10_drawn_31 : decode cX10_drawn 31 = .ok (.iload_n 1, 1) := by decide +kernel
theorem dX10_drawn_32 : decode cX10_drawn 32 = .ok (.if_icmp .ge 101, 3) := by decide +kernel
theorem dX10_drawn_35 : decode cX10_drawn 35 = .ok (.aload_n 0, 1) := by decide +kernel
theorem dX10_drawn_36 : decode cX10_drawn 36 = .ok (.aload_n 0, 1) := by decide +kernel
theorem dX10_drawn_37 : decode cX10_drawn 37 = .ok (.getfield 258, 3) := by decide +kernel
theorem dX10_drawn_40 : decode cX10_drawn 40 = .ok (.ldc2_w 264, 3) := by decide +kernel
theorem dX10_drawn_43 : decode cX10_drawn 43 = .ok (.lmul, 1) := by decide +kernel
theorem dX10_drawn_44 : decode cX10_drawn 44 = .ok (.ldc2_w 266, 3) := by decide +kernel
theorem dX10_drawn_47 : decode cX10_drawn 47 = .ok (.ladd, 1) := by decide +kernel
theorem dX10_drawn_48 : decode cX10_drawn 48 = .ok (.putfield 258, 3) := by decide +kernel
theorem dX10_drawn_51 : decode cX10_drawn 51 = .ok (.aload_n 0, 1) := by decide +kernel
theorem dX10_drawn_52 : decode cX10_drawn 52 = .ok (.getfield 258, 3) := by decide +kernel
theorem dX10_drawn_55 : decode cX10_drawn 55 = .ok (.bipush 33, 2) := by decide +kernel
theorem dX10_drawn_57 : decode cX10_drawn 57 = .ok (.lushr, 1) := by decide +kernel
theorem dX10_drawn_58 : decode cX10_drawn 58 = .ok (.l2i, 1) := by decide +kernel
theorem dX10_drawn_59 : decode cX10_drawn 59 = .ok (.istore 5, 2) := by decide +kernel
theorem dX10_drawn_61 : decode cX10_drawn 61 = .ok (.aload_n 0, 1) := by decide +kernel
theorem dX10_drawn_62 : decode cX10_drawn 62 = .ok (.iconst 0, 1) := by decide +kernel
theorem dX10_drawn_63 : decode cX10_drawn 63 = .ok (.bipush 16, 2) := by decide +kernel
theorem dX10_drawn_65 : decode cX10_drawn 65 = .ok (.iload 5, 2) := by decide +kernel
theorem dX10_drawn_67 : decode cX10_drawn 67 = .ok (.bipush 16, 2) := by decide +kernel
theorem dX10_drawn_69 : decode cX10_drawn 69 = .ok (.irem, 1) := by decide +kernel
theorem dX10_drawn_70 : decode cX10_drawn 70 = .ok (.iload_n 2, 1) := by decide +kernel
theorem dX10_drawn_71 : decode cX10_drawn 71 = .ok (.iand, 1) := by decide +kernel
theorem dX10_drawn_72 : decode cX10_drawn 72 = .ok (.imul, 1) := by decide +kernel
theorem dX10_drawn_73 : decode cX10_drawn 73 = .ok (.iload 5, 2) := by decide +kernel
theorem dX10_drawn_75 : decode cX10_drawn 75 = .ok (.bipush 16, 2) := by decide +kernel
theorem dX10_drawn_77 : decode cX10_drawn 77 = .ok (.idiv, 1) := by decide +kernel
theorem dX10_drawn_78 : decode cX10_drawn 78 = .ok (.bipush 16, 2) := by decide +kernel
theorem dX10_drawn_80 : decode cX10_drawn 80 = .ok (.irem, 1) := by decide +kernel
theorem dX10_drawn_81 : decode cX10_drawn 81 = .ok (.iload_n 2, 1) := by decide +kernel
theorem dX10_drawn_82 : decode cX10_drawn 82 = .ok (.iand, 1) := by decide +kernel
theorem dX10_drawn_83 : decode cX10_drawn 83 = .ok (.iadd, 1) := by decide +kernel
theorem dX10_drawn_84 : decode cX10_drawn 84 = .ok (.invokevirtual 173, 3) := by decide +kernel
theorem dX10_drawn_87 : decode cX10_drawn 87 = .ok (.iconst 0, 1) := by decide +kernel
theorem dX10_drawn_88 : decode cX10_drawn 88 = .ok (.istore 6, 2) := by decide +kernel
theorem dX10_drawn_90 : decode cX10_drawn 90 = .ok (.iload 6, 2) := by decide +kernel
theorem dX10_drawn_92 : decode cX10_drawn 92 = .ok (.aload_n 0, 1) := by decide +kernel
theorem dX10_drawn_93 : decode cX10_drawn 93 = .ok (.getfield 124, 3) := by decide +kernel
theorem dX10_drawn_96 : decode cX10_drawn 96 = .ok (.if_icmp .ge 31, 3) := by decide +kernel
theorem dX10_drawn_99 : decode cX10_drawn 99 = .ok (.iload_n 3, 1) := by decide +kernel
theorem dX10_drawn_100 : decode cX10_drawn 100 = .ok (.aload_n 0, 1) := by decide +kernel
theorem dX10_drawn_101 : decode cX10_drawn 101 = .ok (.iconst 0, 1) := by decide +kernel
theorem dX10_drawn_102 : decode cX10_drawn 102 = .ok (.aload_n 0, 1) := by decide +kernel
theorem dX10_drawn_103 : decode cX10_drawn 103 = .ok (.getfield 34, 3) := by decide +kernel
theorem dX10_drawn_106 : decode cX10_drawn 106 = .ok (.iload 6, 2) := by decide +kernel
theorem dX10_drawn_108 : decode cX10_drawn 108 = .ok (.iaload, 1) := by decide +kernel
theorem dX10_drawn_109 : decode cX10_drawn 109 = .ok (.aload_n 0, 1) := by decide +kernel
theorem dX10_drawn_110 : decode cX10_drawn 110 = .ok (.getfield 37, 3) := by decide +kernel
theorem dX10_drawn_113 : decode cX10_drawn 113 = .ok (.iload 6, 2) := by decide +kernel
theorem dX10_drawn_115 : decode cX10_drawn 115 = .ok (.iaload, 1) := by decide +kernel
theorem dX10_drawn_116 : decode cX10_drawn 116 = .ok (.invokevirtual 177, 3) := by decide +kernel
theorem dX10_drawn_119 : decode cX10_drawn 119 = .ok (.iadd, 1) := by decide +kernel
theorem dX10_drawn_120 : decode cX10_drawn 120 = .ok (.istore_n 3, 1) := by decide +kernel
theorem dX10_drawn_121 : decode cX10_drawn 121 = .ok (.iinc 6 1, 3) := by decide +kernel
theorem dX10_drawn_124 : decode cX10_drawn 124 = .ok (.goto (-34), 3) := by decide +kernel
theorem dX10_drawn_127 : decode cX10_drawn 127 = .ok (.iinc 4 1, 3) := by decide +kernel
theorem dX10_drawn_130 : decode cX10_drawn 130 = .ok (.goto (-101), 3) := by decide +kernel
theorem dX10_drawn_133 : decode cX10_drawn 133 = .ok (.iload_n 3, 1) := by decide +kernel
theorem dX10_drawn_134 : decode cX10_drawn 134 = .ok (.ireturn, 1) := by decide +kernel
set_option maxRecDepth 20000 in
theorem ggX10_keep_X10_in : GoodIn wsX10_keep wsX10_in := goodIn_r _ [8] (by decide +kernel) (by decide +kernel)
set_option maxRecDepth 20000 in
theorem gX10_keep_X10_in : GoodIn wsX10_keep (va_wsS RX10 76 yX10_in wsX10_in) := goodIn_app (goodIn_of _ (by decide +kernel)) ggX10_keep_X10_in
theorem dX10_keep_0 : decode cX10_keep 0 = .ok (.iload_n 1, 1) := by decide +kernel
theorem dX10_keep_1 : decode cX10_keep 1 = .ok (.i2l, 1) := by decide +kernel
theorem dX10_keep_2 : decode cX10_keep 2 = .ok (.lconst 0, 1) := by decide +kernel
theorem dX10_keep_3 : decode cX10_keep 3 = .ok (.lconst 1, 1) := by decide +kernel
theorem dX10_keep_4 : decode cX10_keep 4 = .ok (.invokestatic 76, 3) := by decide +kernel
theorem dX10_keep_7 : decode cX10_keep 7 = .ok (.ifCond .ne 5, 3) := by decide +kernel
theorem dX10_keep_10 : decode cX10_keep 10 = .ok (.iconst (-1), 1) := by decide +kernel
theorem dX10_keep_11 : decode cX10_keep 11 = .ok (.ireturn, 1) := by decide +kernel
theorem dX10_keep_12 : decode cX10_keep 12 = .ok (.aload_n 0, 1) := by decide +kernel
theorem dX10_keep_13 : decode cX10_keep 13 = .ok (.getfield 67, 3) := by decide +kernel
theorem dX10_keep_16 : decode cX10_keep 16 = .ok (.iload_n 1, 1) := by decide +kernel
theorem dX10_keep_17 : decode cX10_keep 17 = .ok (.iconst 1, 1) := by decide +kernel
theorem dX10_keep_18 : decode cX10_keep 18 = .ok (.bastore, 1) := by decide +kernel
theorem dX10_keep_19 : decode cX10_keep 19 = .ok (.iconst 0, 1) := by decide +kernel
theorem dX10_keep_20 : decode cX10_keep 20 = .ok (.istore_n 2, 1) := by decide +kernel
theorem dX10_keep_21 : decode cX10_keep 21 = .ok (.iload_n 2, 1) := by decide +kernel
theorem dX10_keep_22 : decode cX10_keep 22 = .ok (.bipush 16, 2) := by decide +kernel
theorem dX10_keep_24 : decode cX10_keep 24 = .ok (.if_icmp .ge 26, 3) := by decide +kernel

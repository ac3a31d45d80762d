theorem dX10_readText_242 : decode cX10_readText 242 = .ok (.iload 5, 2) := by decide +kernel
theorem dX10_readText_244 : decode cX10_readText 244 = .ok (.iastore, 1) := by decide +kernel
theorem dX10_readText_245 : decode cX10_readText 245 = .ok (.aload_n 0, 1) := by decide +kernel
theorem dX10_readText_246 : decode cX10_readText 246 = .ok (.dup, 1) := by decide +kernel
theorem dX10_readText_247 : decode cX10_readText 247 = .ok (.getfield 91, 3) := by decide +kernel
theorem dX10_readText_250 : decode cX10_readText 250 = .ok (.iconst 1, 1) := by decide +kernel
theorem dX10_readText_251 : decode cX10_readText 251 = .ok (.iadd, 1) := by decide +kernel
theorem dX10_readText_252 : decode cX10_readText 252 = .ok (.putfield 91, 3) := by decide +kernel
theorem dX10_readText_255 : decode cX10_readText 255 = .ok (.iload_n 1, 1) := by decide +kernel
theorem dX10_readText_256 : decode cX10_readText 256 = .ok (.iload_n 2, 1) := by decide +kernel
theorem dX10_readText_257 : decode cX10_readText 257 = .ok (.iconst 4, 1) := by decide +kernel
theorem dX10_readText_258 : decode cX10_readText 258 = .ok (.if_icmp .ne 7, 3) := by decide +kernel
theorem dX10_readText_261 : decode cX10_readText 261 = .ok (.iconst 2, 1) := by decide +kernel
theorem dX10_readText_262 : decode cX10_readText 262 = .ok (.goto 4, 3) := by decide +kernel
theorem dX10_readText_265 : decode cX10_readText 265 = .ok (.iconst 3, 1) := by decide +kernel
theorem dX10_readText_266 : decode cX10_readText 266 = .ok (.iadd, 1) := by decide +kernel
theorem dX10_readText_267 : decode cX10_readText 267 = .ok (.istore_n 1, 1) := by decide +kernel
theorem dX10_readText_268 : decode cX10_readText 268 = .ok (.goto (-194), 3) := by decide +kernel
theorem dX10_readText_271 : decode cX10_readText 271 = .ok (.iload_n 1, 1) := by decide +kernel
theorem dX10_readText_272 : decode cX10_readText 272 = .ok (.aload_n 0, 1) := by decide +kernel
theorem dX10_readText_273 : decode cX10_readText 273 = .ok (.getfield 80, 3) := by decide +kernel
theorem dX10_readText_276 : decode cX10_readText 276 = .ok (.if_icmp .ge 10, 3) := by decide +kernel
theorem dX10_readText_279 : decode cX10_readText 279 = .ok (.aload_n 0, 1) := by decide +kernel
theorem dX10_readText_280 : decode cX10_readText 280 = .ok (.getfield 91, 3) := by decide +kernel
theorem dX10_readText_283 : decode cX10_readText 283 = .ok (.ifCond .ne 5, 3) := by decide +kernel
theorem dX10_readText_286 : decode cX10_readText 286 = .ok (.iload_n 1, 1) := by decide +kernel
theorem dX10_readText_287 : decode cX10_readText 287 = .ok (.ireturn, 1) := by decide +kernel
theorem dX10_readText_288 : decode cX10_readText 288 = .ok (.aload_n 0, 1) := by decide +kernel
theorem dX10_readText_289 : decode cX10_readText 289 = .ok (.iload_n 1, 1) := by decide +kernel
theorem dX10_readText_290 : decode cX10_readText 290 = .ok (.iconst 1, 1) := by decide +kernel
theorem dX10_readText_291 : decode cX10_readText 291 = .ok (.iadd, 1) := by decide +kernel
theorem dX10_readText_292 : decode cX10_readText 292 = .ok (.invokevirtual 105, 3) := by decide +kernel
theorem dX10_readText_295 : decode cX10_readText 295 = .ok (.ireturn, 1) := by decide +kernel
set_option maxRecDepth 20000 in
theorem ggX10_readEnd_X10_signalAt : GoodIn wsX10_readEnd wsX10_signalAt := goodIn_r _ [8, 3, 9, 10, 1, 11, 12, 13, 14, 7, 15, 16, 17, 18, 19, 20, 21, 22, 23, 24, 25, 26, 27, 28, 29, 30, 31, 32, 33, 34, 35, 36, 37, 38, 39, 40, 41, 42, 43, 44, 45, 46] (by decide +kernel) (by decide +kernel)
set_option maxRecDepth 20000 in
theorem gX10_readEnd_X10_signalAt : GoodIn wsX10_readEnd (wsV RX10 102 RX10 yX10_signalAt wsX10_signalAt) := goodIn_app (goodIn_of _ (by decide +kernel)) ggX10_readEnd_X10_signalAt
theorem dX10_readEnd_0 : decode cX10_readEnd 0 = .ok (.iconst 0, 1) := by decide +kernel
theorem dX10_readEnd_1 : decode cX10_readEnd 1 = .ok (.istore_n 2, 1) := by decide +kernel
theorem dX10_readEnd_2 : decode cX10_readEnd 2 = .ok (.iload_n 2, 1) := by decide +kernel
theorem dX10_readEnd_3 : decode cX10_readEnd 3 = .ok (.aload_n 0, 1) := by decide +kernel
theorem dX10_readEnd_4 : decode cX10_readEnd 4 = .ok (.getfield 86, 3) := by decide +kernel
theorem dX10_readEnd_7 : decode cX10_readEnd 7 = .ok (.if_icmp .ge 37, 3) := by decide +kernel
theorem dX10_readEnd_10 : decode cX10_readEnd 10 = .ok (.aload_n 0, 1) := by decide +kernel
theorem dX10_readEnd_11 : decode cX10_readEnd 11 = .ok (.getfield 28, 3) := by decide +kernel
theorem dX10_readEnd_14 : decode cX10_readEnd 14 = .ok (.iload_n 2, 1) := by decide +kernel
theorem dX10_readEnd_15 : decode cX10_readEnd 15 = .ok (.aload_n 0, 1) := by decide +kernel
theorem dX10_readEnd_16 : decode cX10_readEnd 16 = .ok (.iload_n 1, 1) := by decide +kernel
theorem dX10_readEnd_17 : decode cX10_readEnd 17 = .ok (.iload_n 2, 1) := by decide +kernel
theorem dX10_readEnd_18 : decode cX10_readEnd 18 = .ok (.iadd, 1) := by decide +kernel
theorem dX10_readEnd_19 : decode cX10_readEnd 19 = .ok (.invokevirtual 102, 3) := by decide +kernel
theorem dX10_readEnd_22 : decode cX10_readEnd 22 = .ok (.iastore, 1) := by decide +kernel
theorem dX10_readEnd_23 : decode cX10_readEnd 23 = .ok (.aload_n 0, 1) := by decide +kernel
theorem dX10_readEnd_24 : decode cX10_readEnd 24 = .ok (.getfield 28, 3) := by decide +kernel
theorem dX10_readEnd_27 : decode cX10_readEnd 27 = .ok (.iload_n 2, 1) := by decide +kernel
theorem dX10_readEnd_28 : decode cX10_readEnd 28 = .ok (.iaload, 1) := by decide +kernel
theorem dX10_readEnd_29 : decode cX10_readEnd 29 = .ok (.bipush (-9), 2) := by decide +kernel
theorem dX10_readEnd_31 : decode cX10_readEnd 31 = .ok (.if_icmp .ne 7, 3) := by decide +kernel
theorem dX10_readEnd_34 : decode cX10_readEnd 34 = .ok (.iload_n 1, 1) := by decide +kernel
theorem dX10_readEnd_35 : decode cX10_readEnd 35 = .ok (.iload_n 2, 1) := by decide +kernel
theorem dX10_readEnd_36 : decode cX10_readEnd 36 = .ok (.iadd, 1) := by decide +kernel
theorem dX10_readEnd_37 : decode cX10_readEnd 37 = .ok (.ireturn, 1) := by decide +kernel
theorem dX10_readEnd_38 : decode cX10_readEnd 38 = .ok (.iinc 2 1, 3) := by decide +kernel
theorem dX10_readEnd_41 : decode cX10_readEnd 41 = .ok (.goto (-39), 3) := by decide +kernel
theorem dX10_readEnd_44 : decode cX10_readEnd 44 = .ok (.iload_n 1, 1) := by decide +kernel
theorem dX10_readEnd_45 : decode cX10_readEnd 45 = .ok (.aload_n 0, 1) := by decide +kernel
theorem dX10_readEnd_46 : decode cX10_readEnd 46 = .ok (.getfield 86, 3) := by decide +kernel
theorem dX10_readEnd_49 : decode cX10_readEnd 49 = .ok (.iadd, 1) := by decide +kernel
theorem dX10_readEnd_50 : decode cX10_readEnd 50 = .ok (.aload_n 0, 1) := by decide +kernel
theorem dX10_readEnd_51 : decode cX10_readEnd 51 = .ok (.getfield 80, 3) := by decide +kernel
theorem dX10_readEnd_54 : decode cX10_readEnd 54 = .ok (.if_icmp .ge 12, 3) := by decide +kernel
theorem dX10_readEnd_57 : decode cX10_readEnd 57 = .ok (.iload_n 1, 1) := by decide +kernel
theorem dX10_readEnd_58 : decode cX10_readEnd 58 = .ok (.aload_n 0, 1) := by decide +kernel
theorem dX10_readEnd_59 : decode cX10_readEnd 59 = .ok (.getfield 86, 3) := by decide +kernel
theorem dX10_readEnd_62 : decode cX10_readEnd 62 = .ok (.iadd, 1) := by decide +kernel
theorem dX10_readEnd_63 : decode cX10_readEnd 63 = .ok (.goto 5, 3) := by decide +kernel
theorem dX10_readEnd_66 : decode cX10_readEnd 66 = .ok (.bipush (-9), 2) := by decide +kernel
theorem dX10_readEnd_68 : decode cX10_readEnd 68 = .ok (.ireturn, 1) := by decide +kernel
set_option maxRecDepth 20000 in
theorem ggX10_fault_X10_readText : GoodIn wsX10_fault wsX10_readText := goodIn_r _ [5, 6, 7, 8, 9, 10, 11, 12, 13, 14, 15, 16, 4, 17, 18, 19, 20, 21, 22, 23, 24, 25, 26, 27, 28, 29, 30, 31, 32, 33, 34, 35, 36, 37, 38, 39, 40, 41, 42, 43, 44, 45, 46, 47, 48, 49, 50, 51, 52, 53, 54, 55, 56, 57, 58, 59, 60, 61, 62] (by decide +kernel) (by decide +kernel)
set_option maxRecDepth 20000 in
theorem gX10_fault_X10_readText : GoodIn wsX10_fault (wsV RX10 108 RX10 yX10_readText wsX10_readText) := goodIn_app (goodIn_of _ (by decide +kernel)) ggX10_fault_X10_readText
theorem dX10_fault_0 : decode cX10_fault 0 = .ok (.aload_n 0, 1) := by decide +kernel
theorem dX10_fault_1 : decode cX10_fault 1 = .ok (.invokevirtual 108, 3) := by decide +kernel
theorem dX10_fault_4 : decode cX10_fault 4 = .ok (.ireturn, 1) := by decide +kernel
set_option maxRecDepth 20000 in
theorem ggX10_circuit_X10_readText : GoodIn wsX10_circuit wsX10_readText := goodIn_r _ [19, 3, 1, 20, 21, 22, 23, 5, 7, 9, 24, 25, 18, 26, 27, 28, 29, 30, 31, 32, 33, 34, 35, 36, 37, 38, 39, 11, 60, 61, 62, 63, 64, 65, 66, 67, 68, 69, 70, 71, 72, 73, 74, 75, 76, 77, 78, 79, 80, 81, 82, 83, 84, 85, 86, 87, 88, 89, 90] (by decide +kernel) (by decide +kernel)
set_option maxRecDepth 20000 in
theorem gX10_circuit_X10_readText : GoodIn wsX10_circuit (wsV RX10 108 RX10 yX10_readText wsX10_readText) := goodIn_app (goodIn_of _ (by decide +kernel)) ggX10_circuit_X10_readText
set_option maxRecDepth 20000 in
theorem ggX10_circuit_X10_findPaths : GoodIn wsX10_circuit wsX10_findPaths := goodIn_r _ [43, 14, 2, 4, 44, 45, 46, 47, 18, 48, 49, 50, 51, 52, 53, 54, 55, 56, 57, 58, 59, 6, 8, 60, 61, 62, 63, 64, 65, 66, 67, 68, 69, 70, 71, 72, 73, 74, 75, 76, 77, 78, 79, 80, 81, 82, 83, 84, 85, 86, 87, 88, 89, 90] (by decide +kernel) (by decide +kernel)
set_option maxRecDepth 20000 in
theorem gX10_circuit_X10_findPaths : GoodIn wsX10_circuit (wsV RX10 121 RX10 yX10_findPaths wsX10_findPaths) := goodIn_app (goodIn_of _ (by decide +kernel)) ggX10_circuit_X10_findPaths
theorem dX10_circuit_0 : decode cX10_circuit 0 = .ok (.aload_n 0, 1) := by decide +kernel
theorem dX10_circuit_1 : decode cX10_circuit 1 = .ok (.invokevirtual 108, 3) := by decide +kernel
theorem dX10_circuit_4 : decode cX10_circuit 4 = .ok (.bipush (-9), 2) := by decide +kernel
theorem dX10_circuit_6 : decode cX10_circuit 6 = .ok (.if_icmp .eq 6, 3) := by decide +kernel
theorem dX10_circuit_9 : decode cX10_circuit 9 = .ok (.bipush (-3), 2) := by decide +kernel
theorem dX10_circuit_11 : decode cX10_circuit 11 = .ok (.ireturn, 1) := by decide +kernel
theorem dX10_circuit_12 : decode cX10_circuit 12 = .ok (.aload_n 0, 1) := by decide +kernel
theorem dX10_circuit_13 : decode cX10_circuit 13 = .ok (.aload_n 0, 1) := by decide +kernel
theorem dX10_circuit_14 : decode cX10_circuit 14 = .ok (.getfield 86, 3) := by decide +kernel
theorem dX10_circuit_17 : decode cX10_circuit 17 = .ok (.putfield 112, 3) := by decide +kernel
theorem dX10_circuit_20 : decode cX10_circuit 20 = .ok (.aload_n 0, 1) := by decide +kernel
theorem dX10_circuit_21 : decode cX10_circuit 21 = .ok (.aload_n 0, 1) := by decide +kernel
theorem dX10_circuit_22 : decode cX10_circuit 22 = .ok (.getfield 91, 3) := by decide +kernel
theorem dX10_circuit_25 : decode cX10_circuit 25 = .ok (.putfield 115, 3) := by decide +kernel
theorem dX10_circuit_28 : decode cX10_circuit 28 = .ok (.iconst 0, 1) := by decide +kernel
theorem dX10_circuit_29 : decode cX10_circuit 29 = .ok (.istore_n 1, 1) := by decide +kernel
theorem dX10_circuit_30 : decode cX10_circuit 30 = .ok (.iload_n 1, 1) := by decide +kernel
theorem dX10_circuit_31 : decode cX10_circuit 31 = .ok (.bipush 8, 2) := by decide +kernel
theorem dX10_circuit_33 : decode cX10_circuit 33 = .ok (.if_icmp .ge 60, 3) := by decide +kernel
theorem dX10_circuit_36 : decode cX10_circuit 36 = .ok (.aload_n 0, 1) := by decide +kernel
theorem dX10_circuit_37 : decode cX10_circuit 37 = .ok (.getfield 7, 3) := by decide +kernel
theorem dX10_circuit_40 : decode cX10_circuit 40 = .ok (.iconst 0, 1) := by decide +kernel
theorem dX10_circuit_41 : decode cX10_circuit 41 = .ok (.iload_n 1, 1) := by decide +kernel
theorem dX10_circuit_42 : decode cX10_circuit 42 = .ok (.iadd, 1) := by decide +kernel
theorem dX10_circuit_43 : decode cX10_circuit 43 = .ok (.aload_n 0, 1) := by decide +kernel
theorem dX10_circuit_44 : decode cX10_circuit 44 = .ok (.getfield 7, 3) := by decide +kernel
theorem dX10_circuit_47 : decode cX10_circuit 47 = .ok (.bipush 16, 2) := by decide +kernel
theorem dX10_circuit_49 : decode cX10_circuit 49 = .ok (.iload_n 1, 1) := by decide +kernel
theorem dX10_circuit_50 : decode cX10_circuit 50 = .ok (.iadd, 1) := by decide +kernel
theorem dX10_circuit_51 : decode cX10_circuit 51 = .ok (.iaload, 1) := by decide +kernel
theorem dX10_circuit_52 : decode cX10_circuit 52 = .ok (.iastore, 1) := by decide +kernel
theorem dX10_circuit_53 : decode cX10_circuit 53 = .ok (.aload_n 0, 1) := by decide +kernel
theorem dX10_circuit_54 : decode cX10_circuit 54 = .ok (.getfield 7, 3) := by decide +kernel
theorem dX10_circuit_57 : decode cX10_circuit 57 = .ok (.bipush 8, 2) := by decide +kernel
theorem dX10_circuit_59 : decode cX10_circuit 59 = .ok (.iload_n 1, 1) := by decide +kernel
theorem dX10_circuit_60 : decode cX10_circuit 60 = .ok (.iadd, 1) := by decide +kernel
theorem dX10_circuit_61 : decode cX10_circuit 61 = .ok (.iconst 1, 1) := by decide +kernel
theorem dX10_circuit_62 : decode cX10_circuit 62 = .ok (.iastore, 1) := by decide +kernel
theorem dX10_circuit_63 : decode cX10_circuit 63 = .ok (.aload_n 0, 1) := by decide +kernel
theorem dX10_circuit_64 : decode cX10_circuit 64 = .ok (.getfield 13, 3) := by decide +kernel
theorem dX10_circuit_67 : decode cX10_circuit 67 = .ok (.iload_n 1, 1) := by decide +kernel
theorem dX10_circuit_68 : decode cX10_circuit 68 = .ok (.aload_n 0, 1) := by decide +kernel
theorem dX10_circuit_69 : decode cX10_circuit 69 = .ok (.getfield 22, 3) := by decide +kernel
theorem dX10_circuit_72 : decode cX10_circuit 72 = .ok (.iload_n 1, 1) := by decide +kernel
theorem dX10_circuit_73 : decode cX10_circuit 73 = .ok (.iaload, 1) := by decide +kernel
theorem dX10_circuit_74 : decode cX10_circuit 74 = .ok (.iastore, 1) := by decide +kernel
theorem dX10_circuit_75 : decode cX10_circuit 75 = .ok (.aload_n 0, 1) := by decide +kernel
theorem dX10_circuit_76 : decode cX10_circuit 76 = .ok (.getfield 16, 3) := by decide +kernel
theorem dX10_circuit_79 : decode cX10_circuit 79 = .ok (.iload_n 1, 1) := by decide +kernel
theorem dX10_circuit_80 : decode cX10_circuit 80 = .ok (.aload_n 0, 1) := by decide +kernel
theorem dX10_circuit_81 : decode cX10_circuit 81 = .ok (.getfield 25, 3) := by decide +kernel
theorem dX10_circuit_84 : decode cX10_circuit 84 = .ok (.iload_n 1, 1) := by decide +kernel
theorem dX10_circuit_85 : decode cX10_circuit 85 = .ok (.iaload, 1) := by decide +kernel
theorem dX10_circuit_86 : decode cX10_circuit 86 = .ok (.iastore, 1) := by decide +kernel
theorem dX10_circuit_87 : decode cX10_circuit 87 = .ok (.iinc 1 1, 3) := by decide +kernel
theorem dX10_circuit_90 : decode cX10_circuit 90 = .ok (.goto (-60), 3) := by decide +kernel
theorem dX10_circuit_93 : decode cX10_circuit 93 = .ok (.iconst 0, 1) := by decide +kernel
theorem dX10_circuit_94 : decode cX10_circuit 94 = .ok (.istore_n 1, 1) := by decide +kernel
theorem dX10_circuit_95 : decode cX10_circuit 95 = .ok (.iload_n 1, 1) := by decide +kernel
theorem dX10_circuit_96 : decode cX10_circuit 96 = .ok (.iconst 4, 1) := by decide +kernel
theorem dX10_circuit_97 : decode cX10_circuit 97 = .ok (.if_icmp .ge 21, 3) := by decide +kernel
theorem dX10_circuit_100 : decode cX10_circuit 100 = .ok (.aload_n 0, 1) := by decide +kernel
theorem dX10_circuit_101 : decode cX10_circuit 101 = .ok (.getfield 19, 3) := by decide +kernel
theorem dX10_circuit_104 : decode cX10_circuit 104 = .ok (.iload_n 1, 1) := by decide +kernel
theorem dX10_circuit_105 : decode cX10_circuit 105 = .ok (.aload_n 0, 1) := by decide +kernel
theorem dX10_circuit_106 : decode cX10_circuit 106 = .ok (.getfield 28, 3) := by decide +kernel
theorem dX10_circuit_109 : decode cX10_circuit 109 = .ok (.iload_n 1, 1) := by decide +kernel
theorem dX10_circuit_110 : decode cX10_circuit 110 = .ok (.iaload, 1) := by decide +kernel
theorem dX10_circuit_111 : decode cX10_circuit 111 = .ok (.iastore, 1) := by decide +kernel
theorem dX10_circuit_112 : decode cX10_circuit 112 = .ok (.iinc 1 1, 3) := by decide +kernel
theorem dX10_circuit_115 : decode cX10_circuit 115 = .ok (.goto (-20), 3) := by decide +kernel
theorem dX10_circuit_118 : decode cX10_circuit 118 = .ok (.aload_n 0, 1) := by decide +kernel
theorem dX10_circuit_119 : decode cX10_circuit 119 = .ok (.iconst 0, 1) := by decide +kernel
theorem dX10_circuit_120 : decode cX10_circuit 120 = .ok (.putfield 118, 3) := by decide +kernel
theorem dX10_circuit_123 : decode cX10_circuit 123 = .ok (.aload_n 0, 1) := by decide +kernel
theorem dX10_circuit_124 : decode cX10_circuit 124 = .ok (.getfield 67, 3) := by decide +kernel
theorem dX10_circuit_127 : decode cX10_circuit 127 = .ok (.iconst 0, 1) := by decide +kernel
theorem dX10_circuit_128 : decode cX10_circuit 128 = .ok (.iconst 0, 1) := by decide +kernel
theorem dX10_circuit_129 : decode cX10_circuit 129 = .ok (.bastore, 1) := by decide +kernel
theorem dX10_circuit_130 : decode cX10_circuit 130 = .ok (.aload_n 0, 1) := by decide +kernel
theorem dX10_circuit_131 : decode cX10_circuit 131 = .ok (.getfield 67, 3) := by decide +kernel
theorem dX10_circuit_134 : decode cX10_circuit 134 = .ok (.iconst 1, 1) := by decide +kernel
theorem dX10_circuit_135 : decode cX10_circuit 135 = .ok (.iconst 0, 1) := by decide +kernel
theorem dX10_circuit_136 : decode cX10_circuit 136 = .ok (.bastore, 1) := by decide +kernel
theorem dX10_circuit_137 : decode cX10_circuit 137 = .ok (.aload_n 0, 1) := by decide +kernel
theorem dX10_circuit_138 : decode cX10_circuit 138 = .ok (.invokevirtual 121, 3) := by decide +kernel
theorem dX10_circuit_141 : decode cX10_circuit 141 = .ok (.aload_n 0, 1) := by decide +kernel
theorem dX10_circuit_142 : decode cX10_circuit 142 = .ok (.getfield 124, 3) := by decide +kernel
theorem dX10_circuit_145 : decode cX10_circuit 145 = .ok (.ireturn, 1) := by decide +kernel
set_option maxRecDepth 20000 in
theorem ggX10_isGate_X10_in : GoodIn wsX10_isGate wsX10_in := goodIn_r _ [5] (by decide +kernel) (by decide +kernel)
set_option maxRecDepth 20000 in
theorem gX10_isGate_X10_in : GoodIn wsX10_isGate (va_wsS RX10 76 yX10_in wsX10_in) := goodIn_app (goodIn_of _ (by decide +kernel)) ggX10_isGate_X10_in
theorem dX10_isGate_0 : decode cX10_isGate 0 = .ok (.iload_n 1, 1) := by decide +kernel
theorem dX10_isGate_1 : decode cX10_isGate 1 = .ok (.i2l, 1) := by decide +kernel
theorem dX10_isGate_2 : decode cX10_isGate 2 = .ok (.lconst 0, 1) := by decide +kernel
theorem dX10_isGate_3 : decode cX10_isGate 3 = .ok (.aload_n 0, 1) := by decide +kernel
theorem dX10_isGate_4 : decode cX10_isGate 4 = .ok (.getfield 115, 3) := by decide +kernel
theorem dX10_isGate_7 : decode cX10_isGate 7 = .ok (.iconst 1, 1) := by decide +kernel
theorem dX10_isGate_8 : decode cX10_isGate 8 = .ok (.isub, 1) := by decide +kernel
theorem dX10_isGate_9 : decode cX10_isGate 9 = .ok (.i2l, 1) := by decide +kernel
theorem dX10_isGate_10 : decode cX10_isGate 10 = .ok (.invokestatic 76, 3) := by decide +kernel
theorem dX10_isGate_13 : decode cX10_isGate 13 = .ok (.ireturn, 1) := by decide +kernel
theorem dX10_told_0 : decode cX10_told 0 = .ok (.iload_n 0, 1) := by decide +kernel
theorem dX10_told_1 : decode cX10_told 1 = .ok (.bipush (-9), 2) := by decide +kernel
theorem dX10_told_3 : decode cX10_told 3 = .ok (.if_icmp .ne 8, 3) := by decide +kernel
theorem dX10_told_6 : decode cX10_told 6 = .ok (.bipush (-9), 2) := by decide +kernel
theorem dX10_told_8 : decode cX10_told 8 = .ok (.goto 16, 3) := by decide +kernel
theorem dX10_told_11 : decode cX10_told 11 = .ok (.iload_n 0, 1) := by decide +kernel
theorem dX10_told_12 : decode cX10_told 12 = .ok (.iconst 4, 1) := by decide +kernel
theorem dX10_told_13 : decode cX10_told 13 = .ok (.if_icmp .ge 7, 3) := by decide +kernel
theorem dX10_told_16 : decode cX10_told 16 = .ok (.iload_n 0, 1) := by decide +kernel
theorem dX10_told_17 : decode cX10_told 17 = .ok (.goto 7, 3) := by decide +kernel
theorem dX10_told_20 : decode cX10_told 20 = .ok (.iload_n 0, 1) := by decide +kernel
theorem dX10_told_21 : decode cX10_told 21 = .ok (.bipush 6, 2) := by decide +kernel
theorem dX10_told_23 : decode cX10_told 23 = .ok (.iadd, 1) := by decide +kernel
theorem dX10_told_24 : decode cX10_told 24 = .ok (.ireturn, 1) := by decide +kernel
set_option maxRecDepth 20000 in
theorem ggX10_gate_X10_isGate : GoodIn wsX10_gate wsX10_isGate := goodIn_r _ [8, 9, 10, 11, 7, 12, 16, 17, 18, 19, 20, 21, 22, 23, 24, 25, 26, 27, 28, 29, 30, 31, 32, 33, 34, 35, 36, 37, 38, 39, 40, 41, 42, 43, 44, 45, 46] (by decide +kernel) (by decide +kernel)
set_option maxRecDepth 20000 in
theorem gX10_gate_X10_isGate : GoodIn wsX10_gate (wsV RX10 127 RX10 yX10_isGate wsX10_isGate) := goodIn_app (goodIn_of _ (by decide +kernel)) ggX10_gate_X10_isGate
set_option maxRecDepth 20000 in
theorem ggX10_gate_X10_told : GoodIn wsX10_gate wsX10_told := goodIn_r _ [15] (by decide +kernel) (by decide +kernel)
set_option maxRecDepth 20000 in
theorem gX10_gate_X10_told : GoodIn wsX10_gate (va_wsS RX10 131 yX10_told wsX10_told) := goodIn_app (goodIn_of _ (by decide +kernel)) ggX10_gate_X10_told
theorem dX10_gate_0 : decode cX10_gate 0 = .ok (.aload_n 0, 1) := by decide +kernel
theorem dX10_gate_1 : decode cX10_gate 1 = .ok (.iload_n 1, 1) := by decide +kernel
theorem dX10_gate_2 : decode cX10_gate 2 = .ok (.invokevirtual 127, 3) := by decide +kernel
theorem dX10_gate_5 : decode cX10_gate 5 = .ok (.ifCond .ne 5, 3) := by decide +kernel
theorem dX10_gate_8 : decode cX10_gate 8 = .ok (.iconst (-1), 1) := by decide +kernel
theorem dX10_gate_9 : decode cX10_gate 9 = .ok (.ireturn, 1) := by decide +kernel
theorem dX10_gate_10 : decode cX10_gate 10 = .ok (.iload_n 2, 1) := by decide +kernel
theorem dX10_gate_11 : decode cX10_gate 11 = .ok (.tableswitch 68 0 3 #[29, 38, 48, 58], 29) := by decide +kernel
theorem dX10_gate_40 : decode cX10_gate 40 = .ok (.aload_n 0, 1) := by decide +kernel
theorem dX10_gate_41 : decode cX10_gate 41 = .ok (.getfield 7, 3) := by decide +kernel
theorem dX10_gate_44 : decode cX10_gate 44 = .ok (.iconst 0, 1) := by decide +kernel
theorem dX10_gate_45 : decode cX10_gate 45 = .ok (.iload_n 1, 1) := by decide +kernel
theorem dX10_gate_46 : decode cX10_gate 46 = .ok (.iadd, 1) := by decide +kernel
theorem dX10_gate_47 : decode cX10_gate 47 = .ok (.iaload, 1) := by decide +kernel
theorem dX10_gate_48 : decode cX10_gate 48 = .ok (.ireturn, 1) := by decide +kernel
theorem dX10_gate_49 : decode cX10_gate 49 = .ok (.aload_n 0, 1) := by decide +kernel
theorem dX10_gate_50 : decode cX10_gate 50 = .ok (.getfield 13, 3) := by decide +kernel
theorem dX10_gate_53 : decode cX10_gate 53 = .ok (.iload_n 1, 1) := by decide +kernel
theorem dX10_gate_54 : decode cX10_gate 54 = .ok (.iaload, 1) := by decide +kernel
theorem dX10_gate_55 : decode cX10_gate 55 = .ok (.invokestatic 131, 3) := by decide +kernel
theorem dX10_gate_58 : decode cX10_gate 58 = .ok (.ireturn, 1) := by decide +kernel
theorem dX10_gate_59 : decode cX10_gate 59 = .ok (.aload_n 0, 1) := by decide +kernel
theorem dX10_gate_60 : decode cX10_gate 60 = .ok (.getfield 16, 3) := by decide +kernel
theorem dX10_gate_63 : decode cX10_gate 63 = .ok (.iload_n 1, 1) := by decide +kernel
theorem dX10_gate_64 : decode cX10_gate 64 = .ok (.iaload, 1) := by decide +kernel
theorem dX10_gate_65 : decode cX10_gate 65 = .ok (.invokestatic 131, 3) := by decide +kernel
theorem dX10_gate_68 : decode cX10_gate 68 = .ok (.ireturn, 1) := by decide +kernel
theorem dX10_gate_69 : decode cX10_gate 69 = .ok (.aload_n 0, 1) := by decide +kernel
theorem dX10_gate_70 : decode cX10_gate 70 = .ok (.getfield 7, 3) := by decide +kernel
theorem dX10_gate_73 : decode cX10_gate 73 = .ok (.bipush 8, 2) := by decide +kernel
theorem dX10_gate_75 : decode cX10_gate 75 = .ok (.iload_n 1, 1) := by decide +kernel
theorem dX10_gate_76 : decode cX10_gate 76 = .ok (.iadd, 1) := by decide +kernel
theorem dX10_gate_77 : decode cX10_gate 77 = .ok (.iaload, 1) := by decide +kernel
theorem dX10_gate_78 : decode cX10_gate 78 = .ok (.ireturn, 1) := by decide +kernel
theorem dX10_gate_79 : decode cX10_gate 79 = .ok (.bipush (-2), 2) := by decide +kernel
theorem dX10_gate_81 : decode cX10_gate 81 = .ok (.ireturn, 1) := by decide +kernel
theorem dX10_feeds_0 : decode cX10_feeds 0 = .ok (.aload_n 0, 1) := by decide +kernel
theorem dX10_feeds_1 : decode cX10_feeds 1 = .ok (.getfield 13, 3) := by decide +kernel
theorem dX10_feeds_4 : decode cX10_feeds 4 = .ok (.iload_n 2, 1) := by decide +kernel
theorem dX10_feeds_5 : decode cX10_feeds 5 = .ok (.iaload, 1) := by decide +kernel
theorem dX10_feeds_6 : decode cX10_feeds 6 = .ok (.iload_n 1, 1) := by decide +kernel
theorem dX10_feeds_7 : decode cX10_feeds 7 = .ok (.if_icmp .eq 13, 3) := by decide +kernel
theorem dX10_feeds_10 : decode cX10_feeds 10 = .ok (.aload_n 0, 1) := by decide +kernel
theorem dX10_feeds_11 : decode cX10_feeds 11 = .ok (.getfield 16, 3) := by decide +kernel
theorem dX10_feeds_14 : decode cX10_feeds 14 = .ok (.iload_n 2, 1) := by decide +kernel
theorem dX10_feeds_15 : decode cX10_feeds 15 = .ok (.iaload, 1) := by decide +kernel
theorem dX10_feeds_16 : decode cX10_feeds 16 = .ok (.iload_n 1, 1) := by decide +kernel
theorem dX10_feeds_17 : decode cX10_feeds 17 = .ok (.if_icmp .ne 7, 3) := by decide +kernel
theorem dX10_feeds_20 : decode cX10_feeds 20 = .ok (.iconst 1, 1) := by decide +kernel
theorem dX10_feeds_21 : decode cX10_feeds 21 = .ok (.goto 4, 3) := by decide +kernel
theorem dX10_feeds_24 : decode cX10_feeds 24 = .ok (.iconst 0, 1) := by decide +kernel
theorem dX10_feeds_25 : decode cX10_feeds 25 = .ok (.ireturn, 1) := by decide +kernel
set_option maxRecDepth 20000 in
theorem ggX10_follows_X10_has : GoodIn wsX10_follows wsX10_has := goodIn_r _ [5] (by decide +kernel) (by decide +kernel)
set_option maxRecDepth 20000 in
theorem gX10_follows_X10_has : GoodIn wsX10_follows (va_wsS RX10 134 yX10_has wsX10_has) := goodIn_app (goodIn_of _ (by decide +kernel)) ggX10_follows_X10_has
set_option maxRecDepth 20000 in
theorem ggX10_follows_X10_feeds : GoodIn wsX10_follows wsX10_feeds := goodIn_r _ [9, 10, 11, 12, 13, 14, 15, 16, 17, 18, 19, 20, 21, 22, 23, 24, 25, 26, 27, 28, 29, 30, 31, 32, 33, 34, 35, 36, 37, 38, 39, 40, 41, 42] (by decide +kernel) (by decide +kernel)
set_option maxRecDepth 20000 in
theorem gX10_follows_X10_feeds : GoodIn wsX10_follows (wsV RX10 138 RX10 yX10_feeds wsX10_feeds) := goodIn_app (goodIn_of _ (by decide +kernel)) ggX10_follows_X10_feeds
theorem dX10_follows_0 : decode cX10_follows 0 = .ok (.iload_n 1, 1) := by decide +kernel
theorem dX10_follows_1 : decode cX10_follows 1 = .ok (.istore_n 3, 1) := by decide +kernel
theorem dX10_follows_2 : decode cX10_follows 2 = .ok (.iconst 1, 1) := by decide +kernel
theorem dX10_follows_3 : decode cX10_follows 3 = .ok (.istore 4, 2) := by decide +kernel
theorem dX10_follows_5 : decode cX10_follows 5 = .ok (.iconst 0, 1) := by decide +kernel
theorem dX10_follows_6 : decode cX10_follows 6 = .ok (.istore 5, 2) := by decide +kernel
theorem dX10_follows_8 : decode cX10_follows 8 = .ok (.iload 5, 2) := by decide +kernel
theorem dX10_follows_10 : decode cX10_follows 10 = .ok (.aload_n 0, 1) := by decide +kernel
theorem dX10_follows_11 : decode cX10_follows 11 = .ok (.getfield 115, 3) := by decide +kernel
theorem dX10_follows_14 : decode cX10_follows 14 = .ok (.if_icmp .ge 45, 3) := by decide +kernel
theorem dX10_follows_17 : decode cX10_follows 17 = .ok (.iload_n 2, 1) := by decide +kernel
theorem dX10_follows_18 : decode cX10_follows 18 = .ok (.iload 5, 2) := by decide +kernel
theorem dX10_follows_20 : decode cX10_follows 20 = .ok (.invokestatic 134, 3) := by decide +kernel
theorem dX10_follows_23 : decode cX10_follows 23 = .ok (.ifCond .eq 30, 3) := by decide +kernel
theorem dX10_follows_26 : decode cX10_follows 26 = .ok (.iload 4, 2) := by decide +kernel
theorem dX10_follows_28 : decode cX10_follows 28 = .ok (.ifCond .eq 17, 3) := by decide +kernel
theorem dX10_follows_31 : decode cX10_follows 31 = .ok (.aload_n 0, 1) := by decide +kernel
theorem dX10_follows_32 : decode cX10_follows 32 = .ok (.iload_n 3, 1) := by decide +kernel
theorem dX10_follows_33 : decode cX10_follows 33 = .ok (.iload 5, 2) := by decide +kernel
theorem dX10_follows_35 : decode cX10_follows 35 = .ok (.invokevirtual 138, 3) := by decide +kernel
theorem dX10_follows_38 : decode cX10_follows 38 = .ok (.ifCond .eq 7, 3) := by decide +kernel
theorem dX10_follows_41 : decode cX10_follows 41 = .ok (.iconst 1, 1) := by decide +kernel
theorem dX10_follows_42 : decode cX10_follows 42 = .ok (.goto 4, 3) := by decide +kernel
theorem dX10_follows_45 : decode cX10_follows 45 = .ok (.iconst 0, 1) := by decide +kernel
theorem dX10_follows_46 : decode cX10_follows 46 = .ok (.istore 4, 2) := by decide +kernel
theorem dX10_follows_48 : decode cX10_follows 48 = .ok (.iconst 4, 1) := by decide +kernel
theorem dX10_follows_49 : decode cX10_follows 49 = .ok (.iload 5, 2) := by decide +kernel
theorem dX10_follows_51 : decode cX10_follows 51 = .ok (.iadd, 1) := by decide +kernel
theorem dX10_follows_52 : decode cX10_follows 52 = .ok (.istore_n 3, 1) := by decide +kernel
theorem dX10_follows_53 : decode cX10_follows 53 = .ok (.iinc 5 1, 3) := by decide +kernel
theorem dX10_follows_56 : decode cX10_follows 56 = .ok (.goto (-48), 3) := by decide +kernel
theorem dX10_follows_59 : decode cX10_follows 59 = .ok (.iload 4, 2) := by decide +kernel
theorem dX10_follows_61 : decode cX10_follows 61 = .ok (.ireturn, 1) := by decide +kernel
set_option maxRecDepth 20000 in
theorem ggX10_turned_X10_has : GoodIn wsX10_turned wsX10_has := goodIn_r _ [4] (by decide +kernel) (by decide +kernel)
set_option maxRecDepth 20000 in
theorem gX10_turned_X10_has : GoodIn wsX10_turned (va_wsS RX10 134 yX10_has wsX10_has) := goodIn_app (goodIn_of _ (by decide +kernel)) ggX10_turned_X10_has
theorem dX10_turned_0 : decode cX10_turned 0 = .ok (.iconst 0, 1) := by decide +kernel
theorem dX10_turned_1 : decode cX10_turned 1 = .ok (.istore_n 1, 1) := by decide +kernel
theorem dX10_turned_2 : decode cX10_turned 2 = .ok (.iconst 0, 1) := by decide +kernel
theorem dX10_turned_3 : decode cX10_turned 3 = .ok (.istore_n 2, 1) := by decide +kernel
theorem dX10_turned_4 : decode cX10_turned 4 = .ok (.iload_n 2, 1) := by decide +kernel
theorem dX10_turned_5 : decode cX10_turned 5 = .ok (.bipush 8, 2) := by decide +kernel
theorem dX10_turned_7 : decode cX10_turned 7 = .ok (.if_icmp .ge 29, 3) := by decide +kernel
theorem dX10_turned_10 : decode cX10_turned 10 = .ok (.iload_n 1, 1) := by decide +kernel
theorem dX10_turned_11 : decode cX10_turned 11 = .ok (.iload_n 0, 1) := by decide +kernel
theorem dX10_turned_12 : decode cX10_turned 12 = .ok (.iload_n 2, 1) := by decide +kernel
theorem dX10_turned_13 : decode cX10_turned 13 = .ok (.invokestatic 134, 3) := by decide +kernel
theorem dX10_turned_16 : decode cX10_turned 16 = .ok (.ifCond .eq 11, 3) := by decide +kernel
theorem dX10_turned_19 : decode cX10_turned 19 = .ok (.sipush 128, 3) := by decide +kernel
theorem dX10_turned_22 : decode cX10_turned 22 = .ok (.iload_n 2, 1) := by decide +kernel
theorem dX10_turned_23 : decode cX10_turned 23 = .ok (.ishr, 1) := by decide +kernel
theorem dX10_turned_24 : decode cX10_turned 24 = .ok (.goto 4, 3) := by decide +kernel
theorem dX10_turned_27 : decode cX10_turned 27 = .ok (.iconst 0, 1) := by decide +kernel
theorem dX10_turned_28 : decode cX10_turned 28 = .ok (.ior, 1) := by decide +kernel
theorem dX10_turned_29 : decode cX10_turned 29 = .ok (.istore_n 1, 1) := by decide +kernel
theorem dX10_turned_30 : decode cX10_turned 30 = .ok (.iinc 2 1, 3) := by decide +kernel
theorem dX10_turned_33 : decode cX10_turned 33 = .ok (.goto (-29), 3) := by decide +kernel
theorem dX10_turned_36 : decode cX10_turned 36 = .ok (.iload_n 1, 1) := by decide +kernel
theorem dX10_turned_37 : decode cX10_turned 37 = .ok (.ireturn, 1) := by decide +kernel
set_option maxRecDepth 20000 in
theorem ggX10_findPaths_X10_turned : GoodIn wsX10_findPaths wsX10_turned := goodIn_r _ [9, 10, 11, 8, 12] (by decide +kernel) (by decide +kernel)
set_option maxRecDepth 20000 in
theorem gX10_findPaths_X10_turned : GoodIn wsX10_findPaths (va_wsS RX10 141 yX10_turned wsX10_turned) := goodIn_app (goodIn_of _ (by decide +kernel)) ggX10_findPaths_X10_turned
set_option maxRecDepth 20000 in
theorem ggX10_findPaths_X10_follows : GoodIn wsX10_findPaths wsX10_follows := goodIn_r _ [16, 3, 10, 11, 8, 12, 17, 18, 19, 20, 21, 22, 23, 24, 25, 26, 27, 28, 29, 30, 31, 32, 33, 34, 35, 36, 37, 38, 39, 40, 41, 42, 43, 44, 45, 46, 47, 48, 49, 50, 51, 52, 53] (by decide +kernel) (by decide +kernel)
set_option maxRecDepth 20000 in
theorem gX10_findPaths_X10_follows : GoodIn wsX10_findPaths (wsV RX10 144 RX10 yX10_follows wsX10_follows) := goodIn_app (goodIn_of _ (by decide +kernel)) ggX10_findPaths_X10_follows
theorem dX10_findPaths_0 : decode cX10_findPaths 0 = .ok (.aload_n 0, 1) := by decide +kernel
theorem dX10_findPaths_1 : decode cX10_findPaths 1 = .ok (.iconst 0, 1) := by decide +kernel
theorem dX10_findPaths_2 : decode cX10_findPaths 2 = .ok (.putfield 124, 3) := by decide +kernel
theorem dX10_findPaths_5 : decode cX10_findPaths 5 = .ok (.iconst 0, 1) := by decide +kernel
theorem dX10_findPaths_6 : decode cX10_findPaths 6 = .ok (.istore_n 1, 1) := by decide +kernel
theorem dX10_findPaths_7 : decode cX10_findPaths 7 = .ok (.iload_n 1, 1) := by decide +kernel
theorem dX10_findPaths_8 : decode cX10_findPaths 8 = .ok (.aload_n 0, 1) := by decide +kernel
theorem dX10_findPaths_9 : decode cX10_findPaths 9 = .ok (.getfield 112, 3) := by decide +kernel
theorem dX10_findPaths_12 : decode cX10_findPaths 12 = .ok (.if_icmp .ge 91, 3) := by decide +kernel
theorem dX10_findPaths_15 : decode cX10_findPaths 15 = .ok (.sipush 255, 3) := by decide +kernel
theorem dX10_findPaths_18 : decode cX10_findPaths 18 = .ok (.istore_n 2, 1) := by decide +kernel
theorem dX10_findPaths_19 : decode cX10_findPaths 19 = .ok (.iload_n 2, 1) := by decide +kernel
theorem dX10_findPaths_20 : decode cX10_findPaths 20 = .ok (.ifCond .le 77, 3) := by decide +kernel
theorem dX10_findPaths_23 : decode cX10_findPaths 23 = .ok (.iload_n 2, 1) := by decide +kernel
theorem dX10_findPaths_24 : decode cX10_findPaths 24 = .ok (.invokestatic 141, 3) := by decide +kernel
theorem dX10_findPaths_27 : decode cX10_findPaths 27 = .ok (.istore_n 3, 1) := by decide +kernel
theorem dX10_findPaths_28 : decode cX10_findPaths 28 = .ok (.iload_n 3, 1) := by decide +kernel
theorem dX10_findPaths_29 : decode cX10_findPaths 29 = .ok (.aload_n 0, 1) := by decide +kernel
theorem dX10_findPaths_30 : decode cX10_findPaths 30 = .ok (.getfield 115, 3) := by decide +kernel
theorem dX10_findPaths_33 : decode cX10_findPaths 33 = .ok (.iconst 1, 1) := by decide +kernel
theorem dX10_findPaths_34 : decode cX10_findPaths 34 = .ok (.isub, 1) := by decide +kernel
theorem dX10_findPaths_35 : decode cX10_findPaths 35 = .ok (.ishr, 1) := by decide +kernel
theorem dX10_findPaths_36 : decode cX10_findPaths 36 = .ok (.iconst 1, 1) := by decide +kernel
theorem dX10_findPaths_37 : decode cX10_findPaths 37 = .ok (.if_icmp .ne 7, 3) := by decide +kernel
theorem dX10_findPaths_40 : decode cX10_findPaths 40 = .ok (.iconst 1, 1) := by decide +kernel
theorem dX10_findPaths_41 : decode cX10_findPaths 41 = .ok (.goto 4, 3) := by decide +kernel
theorem dX10_findPaths_44 : decode cX10_findPaths 44 = .ok (.iconst 0, 1) := by decide +kernel
theorem dX10_findPaths_45 : decode cX10_findPaths 45 = .ok (.istore 4, 2) := by decide +kernel
theorem dX10_findPaths_47 : decode cX10_findPaths 47 = .ok (.iload 4, 2) := by decide +kernel
theorem dX10_findPaths_49 : decode cX10_findPaths 49 = .ok (.ifCond .eq 42, 3) := by decide +kernel
theorem dX10_findPaths_52 : decode cX10_findPaths 52 = .ok (.aload_n 0, 1) := by decide +kernel
theorem dX10_findPaths_53 : decode cX10_findPaths 53 = .ok (.iload_n 1, 1) := by decide +kernel
theorem dX10_findPaths_54 : decode cX10_findPaths 54 = .ok (.iload_n 3, 1) := by decide +kernel
theorem dX10_findPaths_55 : decode cX10_findPaths 55 = .ok (.invokevirtual 144, 3) := by decide +kernel
theorem dX10_findPaths_58 : decode cX10_findPaths 58 = .ok (.ifCond .eq 33, 3) := by decide +kernel
theorem dX10_findPaths_61 : decode cX10_findPaths 61 = .ok (.aload_n 0, 1) := by decide +kernel
theorem dX10_findPaths_62 : decode cX10_findPaths 62 = .ok (.getfield 34, 3) := by decide +kernel
theorem dX10_findPaths_65 : decode cX10_findPaths 65 = .ok (.aload_n 0, 1) := by decide +kernel
theorem dX10_findPaths_66 : decode cX10_findPaths 66 = .ok (.getfield 124, 3) := by decide +kernel
theorem dX10_findPaths_69 : decode cX10_findPaths 69 = .ok (.iload_n 1, 1) := by decide +kernel
theorem dX10_findPaths_70 : decode cX10_findPaths 70 = .ok (.iastore, 1) := by decide +kernel
theorem dX10_findPaths_71 : decode cX10_findPaths 71 = .ok (.aload_n 0, 1) := by decide +kernel
theorem dX10_findPaths_72 : decode cX10_findPaths 72 = .ok (.getfield 37, 3) := by decide +kernel
theorem dX10_findPaths_75 : decode cX10_findPaths 75 = .ok (.aload_n 0, 1) := by decide +kernel
theorem dX10_findPaths_76 : decode cX10_findPaths 76 = .ok (.getfield 124, 3) := by decide +kernel
theorem dX10_findPaths_79 : decode cX10_findPaths 79 = .ok (.iload_n 3, 1) := by decide +kernel
theorem dX10_findPaths_80 : decode cX10_findPaths 80 = .ok (.iastore, 1) := by decide +kernel
theorem dX10_findPaths_81 : decode cX10_findPaths 81 = .ok (.aload_n 0, 1) := by decide +kernel
theorem dX10_findPaths_82 : decode cX10_findPaths 82 = .ok (.dup, 1) := by decide +kernel
theorem dX10_findPaths_83 : decode cX10_findPaths 83 = .ok (.getfield 124, 3) := by decide +kernel
theorem dX10_findPaths_86 : decode cX10_findPaths 86 = .ok (.iconst 1, 1) := by decide +kernel
theorem dX10_findPaths_87 : decode cX10_findPaths 87 = .ok (.iadd, 1) := by decide +kernel
theorem dX10_findPaths_88 : decode cX10_findPaths 88 = .ok (.putfield 124, 3) := by decide +kernel
theorem dX10_findPaths_91 : decode cX10_findPaths 91 = .ok (.iinc 2 (-1), 3) := by decide +kernel
theorem dX10_findPaths_94 : decode cX10_findPaths 94 = .ok (.goto (-75), 3) := by decide +kernel
theorem dX10_findPaths_97 : decode cX10_findPaths 97 = .ok (.iinc 1 1, 3) := by decide +kernel
theorem dX10_findPaths_100 : decode cX10_findPaths 100 = .ok (.goto (-93), 3) := by decide +kernel
theorem dX10_findPaths_103 : decode cX10_findPaths 103 = .ok (.return_, 1) := by decide +kernel
set_option maxRecDepth 20000 in
theorem ggX10_lengthOf_X10_has : GoodIn wsX10_lengthOf wsX10_has := goodIn_r _ [7] (by decide +kernel) (by decide +kernel)
set_option maxRecDepth 20000 in
theorem gX10_lengthOf_X10_has : GoodIn wsX10_lengthOf (va_wsS RX10 134 yX10_has wsX10_has) := goodIn_app (goodIn_of _ (by decide +kernel)) ggX10_lengthOf_X10_has
theorem dX10_lengthOf_0 : decode cX10_lengthOf 0 = .ok (.iconst 0, 1) := by decide +kernel
theorem dX10_lengthOf_1 : decode cX10_lengthOf 1 = .ok (.istore_n 3, 1) := by decide +kernel
theorem dX10_lengthOf_2 : decode cX10_lengthOf 2 = .ok (.iconst 0, 1) := by decide +kernel
theorem dX10_lengthOf_3 : decode cX10_lengthOf 3 = .ok (.istore 4, 2) := by decide +kernel
theorem dX10_lengthOf_5 : decode cX10_lengthOf 5 = .ok (.iload 4, 2) := by decide +kernel
theorem dX10_lengthOf_7 : decode cX10_lengthOf 7 = .ok (.aload_n 0, 1) := by decide +kernel
theorem dX10_lengthOf_8 : decode cX10_lengthOf 8 = .ok (.getfield 115, 3) := by decide +kernel
theorem dX10_lengthOf_11 : decode cX10_lengthOf 11 = .ok (.if_icmp .ge 45, 3) := by decide +kernel
theorem dX10_lengthOf_14 : decode cX10_lengthOf 14 = .ok (.iload_n 3, 1) := by decide +kernel
theorem dX10_lengthOf_15 : decode cX10_lengthOf 15 = .ok (.aload_n 0, 1) := by decide +kernel
theorem dX10_lengthOf_16 : decode cX10_lengthOf 16 = .ok (.getfield 37, 3) := by decide +kernel
theorem dX10_lengthOf_19 : decode cX10_lengthOf 19 = .ok (.iload_n 2, 1) := by decide +kernel
theorem dX10_lengthOf_20 : decode cX10_lengthOf 20 = .ok (.iaload, 1) := by decide +kernel
theorem dX10_lengthOf_21 : decode cX10_lengthOf 21 = .ok (.iload 4, 2) := by decide +kernel
theorem dX10_lengthOf_23 : decode cX10_lengthOf 23 = .ok (.invokestatic 134, 3) := by decide +kernel
theorem dX10_lengthOf_26 : decode cX10_lengthOf 26 = .ok (.ifCond .eq 21, 3) := by decide +kernel
theorem dX10_lengthOf_29 : decode cX10_lengthOf 29 = .ok (.aload_n 0, 1) := by decide +kernel
theorem dX10_lengthOf_30 : decode cX10_lengthOf 30 = .ok (.getfield 7, 3) := by decide +kernel
theorem dX10_lengthOf_33 : decode cX10_lengthOf 33 = .ok (.bipush 16, 2) := by decide +kernel
theorem dX10_lengthOf_35 : decode cX10_lengthOf 35 = .ok (.iload_n 1, 1) := by decide +kernel
theorem dX10_lengthOf_36 : decode cX10_lengthOf 36 = .ok (.imul, 1) := by decide +kernel
theorem dX10_lengthOf_37 : decode cX10_lengthOf 37 = .ok (.bipush 8, 2) := by decide +kernel
theorem dX10_lengthOf_39 : decode cX10_lengthOf 39 = .ok (.iadd, 1) := by decide +kernel
theorem dX10_lengthOf_40 : decode cX10_lengthOf 40 = .ok (.iload 4, 2) := by decide +kernel
theorem dX10_lengthOf_42 : decode cX10_lengthOf 42 = .ok (.iadd, 1) := by decide +kernel
theorem dX10_lengthOf_43 : decode cX10_lengthOf 43 = .ok (.iaload, 1) := by decide +kernel
theorem dX10_lengthOf_44 : decode cX10_lengthOf 44 = .ok (.goto 4, 3) := by decide +kernel
theorem dX10_lengthOf_47 : decode cX10_lengthOf 47 = .ok (.iconst 0, 1) := by decide +kernel
theorem dX10_lengthOf_48 : decode cX10_lengthOf 48 = .ok (.iadd, 1) := by decide +kernel
theorem dX10_lengthOf_49 : decode cX10_lengthOf 49 = .ok (.istore_n 3, 1) := by decide +kernel
theorem dX10_lengthOf_50 : decode cX10_lengthOf 50 = .ok (.iinc 4 1, 3) := by decide +kernel
theorem dX10_lengthOf_53 : decode cX10_lengthOf 53 = .ok (.goto (-48), 3) := by decide +kernel
theorem dX10_lengthOf_56 : decode cX10_lengthOf 56 = .ok (.iload_n 3, 1) := by decide +kernel
theorem dX10_lengthOf_57 : decode cX10_lengthOf 57 = .ok (.ireturn, 1) := by decide +kernel
set_option maxRecDepth 20000 in
theorem ggX10_isPath_X10_in : GoodIn wsX10_isPath wsX10_in := goodIn_r _ [5] (by decide +kernel) (by decide +kernel)
set_option maxRecDepth 20000 in
theorem gX10_isPath_X10_in : GoodIn wsX10_isPath (va_wsS RX10 76 yX10_in wsX10_in) := goodIn_app (goodIn_of _ (by decide +kernel)) ggX10_isPath_X10_in
theorem dX10_isPath_0 : decode cX10_isPath 0 = .ok (.iload_n 1, 1) := by decide +kernel
theorem dX10_isPath_1 : decode cX10_isPath 1 = .ok (.i2l, 1) := by decide +kernel
theorem dX10_isPath_2 : decode cX10_isPath 2 = .ok (.lconst 0, 1) := by decide +kernel
theorem dX10_isPath_3 : decode cX10_isPath 3 = .ok (.aload_n 0, 1) := by decide +kernel
theorem dX10_isPath_4 : decode cX10_isPath 4 = .ok (.getfield 124, 3) := by decide +kernel
theorem dX10_isPath_7 : decode cX10_isPath 7 = .ok (.iconst 1, 1) := by decide +kernel
theorem dX10_isPath_8 : decode cX10_isPath 8 = .ok (.isub, 1) := by decide +kernel
theorem dX10_isPath_9 : decode cX10_isPath 9 = .ok (.i2l, 1) := by decide +kernel
theorem dX10_isPath_10 : decode cX10_isPath 10 = .ok (.invokestatic 76, 3) := by decide +kernel
theorem dX10_isPath_13 : decode cX10_isPath 13 = .ok (.ireturn, 1) := by decide +kernel
set_option maxRecDepth 20000 in
theorem ggX10_path_X10_isPath : GoodIn wsX10_path wsX10_isPath := goodIn_r _ [8, 9, 10, 11, 7, 12, 24, 25, 26, 27, 28, 29, 30, 31, 32, 33, 34, 35, 36, 37, 38, 39, 40, 41, 42, 43, 44, 45, 46, 47, 48, 49, 50, 51, 52, 53, 54] (by decide +kernel) (by decide +kernel)
set_option maxRecDepth 20000 in
theorem gX10_path_X10_isPath : GoodIn wsX10_path (wsV RX10 147 RX10 yX10_isPath wsX10_isPath) := goodIn_app (goodIn_of _ (by decide +kernel)) ggX10_path_X10_isPath
set_option maxRecDepth 20000 in
theorem ggX10_path_X10_ones : GoodIn wsX10_path wsX10_ones := goodIn_r _ [15] (by decide +kernel) (by decide +kernel)
set_option maxRecDepth 20000 in
theorem gX10_path_X10_ones : GoodIn wsX10_path (va_wsS RX10 150 yX10_ones wsX10_ones) := goodIn_app (goodIn_of _ (by decide +kernel)) ggX10_path_X10_ones
set_option maxRecDepth 20000 in
theorem ggX10_path_X10_lengthOf : GoodIn wsX10_path wsX10_lengthOf := goodIn_r _ [19, 3, 2, 20, 21, 22, 7, 23, 24, 25, 26, 27, 28, 29, 30, 31, 32, 33, 34, 35, 36, 37, 38, 39, 40, 41, 42, 43, 44, 45, 46, 47, 48, 49, 50, 51, 52, 53, 54] (by decide +kernel) (by decide +kernel)
set_option maxRecDepth 20000 in
theorem gX10_path_X10_lengthOf : GoodIn wsX10_path (wsV RX10 153 RX10 yX10_lengthOf wsX10_lengthOf) := goodIn_app (goodIn_of _ (by decide +kernel)) ggX10_path_X10_lengthOf
set_option maxRecDepth 20000 in
theorem ggX10_path_X10_has : GoodIn wsX10_path wsX10_has := goodIn_r _ [23] (by decide +kernel) (by decide +kernel)
set_option maxRecDepth 20000 in
theorem gX10_path_X10_has : GoodIn wsX10_path (va_wsS RX10 134 yX10_has wsX10_has) := goodIn_app (goodIn_of _ (by decide +kernel)) ggX10_path_X10_has
theorem dX10_path_0 : decode cX10_path 0 = .ok (.aload_n 0, 1) := by decide +kernel
theorem dX10_path_1 : decode cX10_path 1 = .ok (.iload_n 1, 1) := by decide +kernel
theorem dX10_path_2 : decode cX10_path 2 = .ok (.invokevirtual 147, 3) := by decide +kernel
theorem dX10_path_5 : decode cX10_path 5 = .ok (.ifCond .ne 5, 3) := by decide +kernel
theorem dX10_path_8 : decode cX10_path 8 = .ok (.iconst (-1), 1) := by decide +kernel
theorem dX10_path_9 : decode cX10_path 9 = .ok (.ireturn, 1) := by decide +kernel
theorem dX10_path_10 : decode cX10_path 10 = .ok (.iload_n 2, 1) := by decide +kernel
theorem dX10_path_11 : decode cX10_path 11 = .ok (.ifCond .ge 6, 3) := by decide +kernel
theorem dX10_path_14 : decode cX10_path 14 = .ok (.bipush (-2), 2) := by decide +kernel
theorem dX10_path_16 : decode cX10_path 16 = .ok (.ireturn, 1) := by decide +kernel
theorem dX10_path_17 : decode cX10_path 17 = .ok (.iload_n 2, 1) := by decide +kernel
theorem dX10_path_18 : decode cX10_path 18 = .ok (.iconst 3, 1) := by decide +kernel
theorem dX10_path_19 : decode cX10_path 19 = .ok (.if_icmp .ge 40, 3) := by decide +kernel
theorem dX10_path_22 : decode cX10_path 22 = .ok (.iload_n 2, 1) := by decide +kernel
theorem dX10_path_23 : decode cX10_path 23 = .ok (.ifCond .ne 12, 3) := by decide +kernel
theorem dX10_path_26 : decode cX10_path 26 = .ok (.aload_n 0, 1) := by decide +kernel
theorem dX10_path_27 : decode cX10_path 27 = .ok (.getfield 34, 3) := by decide +kernel
theorem dX10_path_30 : decode cX10_path 30 = .ok (.iload_n 1, 1) := by decide +kernel
theorem dX10_path_31 : decode cX10_path 31 = .ok (.iaload, 1) := by decide +kernel
theorem dX10_path_32 : decode cX10_path 32 = .ok (.goto 26, 3) := by decide +kernel
theorem dX10_path_35 : decode cX10_path 35 = .ok (.iload_n 2, 1) := by decide +kernel
theorem dX10_path_36 : decode cX10_path 36 = .ok (.iconst 1, 1) := by decide +kernel
theorem dX10_path_37 : decode cX10_path 37 = .ok (.if_icmp .ne 15, 3) := by decide +kernel
theorem dX10_path_40 : decode cX10_path 40 = .ok (.aload_n 0, 1) := by decide +kernel
theorem dX10_path_41 : decode cX10_path 41 = .ok (.getfield 37, 3) := by decide +kernel
theorem dX10_path_44 : decode cX10_path 44 = .ok (.iload_n 1, 1) := by decide +kernel
theorem dX10_path_45 : decode cX10_path 45 = .ok (.iaload, 1) := by decide +kernel
theorem dX10_path_46 : decode cX10_path 46 = .ok (.invokestatic 150, 3) := by decide +kernel
theorem dX10_path_49 : decode cX10_path 49 = .ok (.goto 9, 3) := by decide +kernel
theorem dX10_path_52 : decode cX10_path 52 = .ok (.aload_n 0, 1) := by decide +kernel
theorem dX10_path_53 : decode cX10_path 53 = .ok (.iconst 0, 1) := by decide +kernel
theorem dX10_path_54 : decode cX10_path 54 = .ok (.iload_n 1, 1) := by decide +kernel
theorem dX10_path_55 : decode cX10_path 55 = .ok (.invokevirtual 153, 3) := by decide +kernel
theorem dX10_path_58 : decode cX10_path 58 = .ok (.ireturn, 1) := by decide +kernel
theorem dX10_path_59 : decode cX10_path 59 = .ok (.iload_n 2, 1) := by decide +kernel
theorem dX10_path_60 : decode cX10_path 60 = .ok (.iconst 3, 1) := by decide +kernel
theorem dX10_path_61 : decode cX10_path 61 = .ok (.isub, 1) := by decide +kernel
theorem dX10_path_62 : decode cX10_path 62 = .ok (.istore_n 3, 1) := by decide +kernel
theorem dX10_path_63 : decode cX10_path 63 = .ok (.iconst 0, 1) := by decide +kernel
theorem dX10_path_64 : decode cX10_path 64 = .ok (.istore 4, 2) := by decide +kernel
theorem dX10_path_66 : decode cX10_path 66 = .ok (.iload 4, 2) := by decide +kernel
theorem dX10_path_68 : decode cX10_path 68 = .ok (.aload_n 0, 1) := by decide +kernel
theorem dX10_path_69 : decode cX10_path 69 = .ok (.getfield 115, 3) := by decide +kernel
theorem dX10_path_72 : decode cX10_path 72 = .ok (.if_icmp .ge 33, 3) := by decide +kernel
theorem dX10_path_75 : decode cX10_path 75 = .ok (.aload_n 0, 1) := by decide +kernel
theorem dX10_path_76 : decode cX10_path 76 = .ok (.getfield 37, 3) := by decide +kernel
theorem dX10_path_79 : decode cX10_path 79 = .ok (.iload_n 1, 1) := by decide +kernel
theorem dX10_path_80 : decode cX10_path 80 = .ok (.iaload, 1) := by decide +kernel
theorem dX10_path_81 : decode cX10_path 81 = .ok (.iload 4, 2) := by decide +kernel
theorem dX10_path_83 : decode cX10_path 83 = .ok (.invokestatic 134, 3) := by decide +kernel
theorem dX10_path_86 : decode cX10_path 86 = .ok (.ifCond .eq 13, 3) := by decide +kernel
theorem dX10_path_89 : decode cX10_path 89 = .ok (.iload_n 3, 1) := by decide +kernel
theorem dX10_path_90 : decode cX10_path 90 = .ok (.ifCond .ne 6, 3) := by decide +kernel
theorem dX10_path_93 : decode cX10_path 93 = .ok (.iload 4, 2) := by decide +kernel
theorem dX10_path_95 : decode cX10_path 95 = .ok (.ireturn, 1) := by decide +kernel
theorem dX10_path_96 : decode cX10_path 96 = .ok (.iinc 3 (-1), 3) := by decide +kernel
theorem dX10_path_99 : decode cX10_path 99 = .ok (.iinc 4 1, 3) := by decide +kernel
theorem dX10_path_102 : decode cX10_path 102 = .ok (.goto (-36), 3) := by decide +kernel
theorem dX10_path_105 : decode cX10_path 105 = .ok (.bipush (-9), 2) := by decide +kernel
theorem dX10_path_107 : decode cX10_path 107 = .ok (.ireturn, 1) := by decide +kernel
set_option maxRecDepth 20000 in
theorem ggX10_greatest_X10_lengthOf : GoodIn wsX10_greatest wsX10_lengthOf := goodIn_r _ [6, 7, 8, 9, 10, 11, 5, 12, 13, 14, 15, 16, 17, 18, 19, 20, 21, 22, 23, 24, 25, 26, 27, 28, 29, 30, 31, 32, 33, 34, 35, 36, 37, 38, 39, 40, 41, 42, 43] (by decide +kernel) (by decide +kernel)
set_option maxRecDepth 20000 in
theorem gX10_greatest_X10_lengthOf : GoodIn wsX10_greatest (wsV RX10 153 RX10 yX10_lengthOf wsX10_lengthOf) := goodIn_app (goodIn_of _ (by decide +kernel)) ggX10_greatest_X10_lengthOf
theorem dX10_greatest_0 : decode cX10_greatest 0 = .ok (.bipush (-9), 2) := by decide +kernel
theorem dX10_greatest_2 : decode cX10_greatest 2 = .ok (.istore_n 2, 1) := by decide +kernel
theorem dX10_greatest_3 : decode cX10_greatest 3 = .ok (.iconst 0, 1) := by decide +kernel
theorem dX10_greatest_4 : decode cX10_greatest 4 = .ok (.istore_n 3, 1) := by decide +kernel
theorem dX10_greatest_5 : decode cX10_greatest 5 = .ok (.iload_n 3, 1) := by decide +kernel
theorem dX10_greatest_6 : decode cX10_greatest 6 = .ok (.aload_n 0, 1) := by decide +kernel
theorem dX10_greatest_7 : decode cX10_greatest 7 = .ok (.getfield 124, 3) := by decide +kernel
theorem dX10_greatest_10 : decode cX10_greatest 10 = .ok (.if_icmp .ge 30, 3) := by decide +kernel
theorem dX10_greatest_13 : decode cX10_greatest 13 = .ok (.aload_n 0, 1) := by decide +kernel
theorem dX10_greatest_14 : decode cX10_greatest 14 = .ok (.iload_n 1, 1) := by decide +kernel
theorem dX10_greatest_15 : decode cX10_greatest 15 = .ok (.iload_n 3, 1) := by decide +kernel
theorem dX10_greatest_16 : decode cX10_greatest 16 = .ok (.invokevirtual 153, 3) := by decide +kernel
theorem dX10_greatest_19 : decode cX10_greatest 19 = .ok (.iload_n 2, 1) := by decide +kernel
theorem dX10_greatest_20 : decode cX10_greatest 20 = .ok (.if_icmp .le 12, 3) := by decide +kernel
theorem dX10_greatest_23 : decode cX10_greatest 23 = .ok (.aload_n 0, 1) := by decide +kernel
theorem dX10_greatest_24 : decode cX10_greatest 24 = .ok (.iload_n 1, 1) := by decide +kernel
theorem dX10_greatest_25 : decode cX10_greatest 25 = .ok (.iload_n 3, 1) := by decide +kernel
theorem dX10_greatest_26 : decode cX10_greatest 26 = .ok (.invokevirtual 153, 3) := by decide +kernel
theorem dX10_greatest_29 : decode cX10_greatest 29 = .ok (.goto 4, 3) := by decide +kernel
theorem dX10_greatest_32 : decode cX10_greatest 32 = .ok (.iload_n 2, 1) := by decide +kernel
theorem dX10_greatest_33 : decode cX10_greatest 33 = .ok (.istore_n 2, 1) := by decide +kernel
theorem dX10_greatest_34 : decode cX10_greatest 34 = .ok (.iinc 3 1, 3) := by decide +kernel
theorem dX10_greatest_37 : decode cX10_greatest 37 = .ok (.goto (-32), 3) := by decide +kernel
theorem dX10_greatest_40 : decode cX10_greatest 40 = .ok (.iload_n 2, 1) := by decide +kernel
theorem dX10_greatest_41 : decode cX10_greatest 41 = .ok (.ireturn, 1) := by decide +kernel
set_option maxRecDepth 20000 in
theorem ggX10_longest_X10_in : GoodIn wsX10_longest wsX10_in := goodIn_r _ [5] (by decide +kernel) (by decide +kernel)
set_option maxRecDepth 20000 in
theorem gX10_longest_X10_in : GoodIn wsX10_longest (va_wsS RX10 76 yX10_in wsX10_in) := goodIn_app (goodIn_of _ (by decide +kernel)) ggX10_longest_X10_in
set_option maxRecDepth 20000 in
theorem ggX10_longest_X10_greatest : GoodIn wsX10_longest wsX10_greatest := goodIn_r _ [9, 1, 10, 11, 12, 4, 13, 14, 15, 16, 17, 18, 19, 20, 21, 22, 23, 24, 25, 26, 27, 28, 29, 30, 31, 32, 33, 34, 35, 36, 37, 38, 39, 40, 41, 42, 43, 44, 45, 46, 47, 48, 49, 50] (by decide +kernel) (by decide +kernel)
set_option maxRecDepth 20000 in
theorem gX10_longest_X10_greatest : GoodIn wsX10_longest (wsV RX10 157 RX10 yX10_greatest wsX10_greatest) := goodIn_app (goodIn_of _ (by decide +kernel)) ggX10_longest_X10_greatest
set_option maxRecDepth 20000 in
theorem ggX10_longest_X10_lengthOf : GoodIn wsX10_longest wsX10_lengthOf := goodIn_r _ [13, 14, 15, 16, 17, 18, 4, 19, 20, 21, 22, 23, 24, 25, 26, 27, 28, 29, 30, 31, 32, 33, 34, 35, 36, 37, 38, 39, 40, 41, 42, 43, 44, 45, 46, 47, 48, 49, 50] (by decide +kernel) (by decide +kernel)
set_option maxRecDepth 20000 in
theorem gX10_longest_X10_lengthOf : GoodIn wsX10_longest (wsV RX10 153 RX10 yX10_lengthOf wsX10_lengthOf) := goodIn_app (goodIn_of _ (by decide +kernel)) ggX10_longest_X10_lengthOf
theorem dX10_longest_0 : decode cX10_longest 0 = .ok (.iload_n 1, 1) := by decide +kernel
theorem dX10_longest_1 : decode cX10_longest 1 = .ok (.i2l, 1) := by decide +kernel
theorem dX10_longest_2 : decode cX10_longest 2 = .ok (.lconst 0, 1) := by decide +kernel
theorem dX10_longest_3 : decode cX10_longest 3 = .ok (.lconst 1, 1) := by decide +kernel
theorem dX10_longest_4 : decode cX10_longest 4 = .ok (.invokestatic 76, 3) := by decide +kernel
theorem dX10_longest_7 : decode cX10_longest 7 = .ok (.ifCond .ne 6, 3) := by decide +kernel
theorem dX10_longest_10 : decode cX10_longest 10 = .ok (.bipush (-2), 2) := by decide +kernel
theorem dX10_longest_12 : decode cX10_longest 12 = .ok (.ireturn, 1) := by decide +kernel
theorem dX10_longest_13 : decode cX10_longest 13 = .ok (.aload_n 0, 1) := by decide +kernel
theorem dX10_longest_14 : decode cX10_longest 14 = .ok (.iconst 0, 1) := by decide +kernel
theorem dX10_longest_15 : decode cX10_longest 15 = .ok (.invokevirtual 157, 3) := by decide +kernel
theorem dX10_longest_18 : decode cX10_longest 18 = .ok (.istore_n 2, 1) := by decide +kernel
theorem dX10_longest_19 : decode cX10_longest 19 = .ok (.iload_n 1, 1) := by decide +kernel
theorem dX10_longest_20 : decode cX10_longest 20 = .ok (.ifCond .ne 5, 3) := by decide +kernel
theorem dX10_longest_23 : decode cX10_longest 23 = .ok (.iload_n 2, 1) := by decide +kernel
theorem dX10_longest_24 : decode cX10_longest 24 = .ok (.ireturn, 1) := by decide +kernel
theorem dX10_longest_25 : decode cX10_longest 25 = .ok (.iconst 0, 1) := by decide +kernel
theorem dX10_longest_26 : decode cX10_longest 26 = .ok (.istore_n 3, 1) := by decide +kernel
theorem dX10_longest_27 : decode cX10_longest 27 = .ok (.iload_n 3, 1) := by decide +kernel
theorem dX10_longest_28 : decode cX10_longest 28 = .ok (.aload_n 0, 1) := by decide +kernel
theorem dX10_longest_29 : decode cX10_longest 29 = .ok (.getfield 124, 3) := by decide +kernel
theorem dX10_longest_32 : decode cX10_longest 32 = .ok (.if_icmp .ge 21, 3) := by decide +kernel
theorem dX10_longest_35 : decode cX10_longest 35 = .ok (.aload_n 0, 1) := by decide +kernel
theorem dX10_longest_36 : decode cX10_longest 36 = .ok (.iconst 0, 1) := by decide +kernel
theorem dX10_longest_37 : decode cX10_longest 37 = .ok (.iload_n 3, 1) := by decide +kernel
theorem dX10_longest_38 : decode cX10_longest 38 = .ok (.invokevirtual 153, 3) := by decide +kernel
theorem dX10_longest_41 : decode cX10_longest 41 = .ok (.iload_n 2, 1) := by decide +kernel
theorem dX10_longest_42 : decode cX10_longest 42 = .ok (.if_icmp .ne 5, 3) := by decide +kernel
theorem dX10_longest_45 : decode cX10_longest 45 = .ok (.iload_n 3, 1) := by decide +kernel
theorem dX10_longest_46 : decode cX10_longest 46 = .ok (.ireturn, 1) := by decide +kernel
theorem dX10_longest_47 : decode cX10_longest 47 = .ok (.iinc 3 1, 3) := by decide +kernel
theorem dX10_longest_50 : decode cX10_longest 50 = .ok (.goto (-23), 3) := by decide +kernel
theorem dX10_longest_53 : decode cX10_longest 53 = .ok (.bipush (-9), 2) := by decide +kernel
theorem dX10_longest_55 : decode cX10_longest 55 = .ok (.ireturn, 1) := by decide +kernel
theorem dX10_makes_0 : decode cX10_makes 0 = .ok (.iload_n 0, 1) := by decide +kernel
theorem dX10_makes_1 : decode cX10_makes 1 = .ok (.tableswitch 51 0 3 #[31, 35, 39, 45], 31) := by decide +kernel
theorem dX10_makes_32 : decode cX10_makes 32 = .ok (.iload_n 1, 1) := by decide +kernel
theorem dX10_makes_33 : decode cX10_makes 33 = .ok (.iload_n 2, 1) := by decide +kernel
theorem dX10_makes_34 : decode cX10_makes 34 = .ok (.iand, 1) := by decide +kernel
theorem dX10_makes_35 : decode cX10_makes 35 = .ok (.ireturn, 1) := by decide +kernel
theorem dX10_makes_36 : decode cX10_makes 36 = .ok (.iload_n 1, 1) := by decide +kernel
theorem dX10_makes_37 : decode cX10_makes 37 = .ok (.iload_n 2, 1) := by decide +kernel
theorem dX10_makes_38 : decode cX10_makes 38 = .ok (.ior, 1) := by decide +kernel
theorem dX10_makes_39 : decode cX10_makes 39 = .ok (.ireturn, 1) := by decide +kernel
theorem dX10_makes_40 : decode cX10_makes 40 = .ok (.iconst 1, 1) := by decide +kernel
theorem dX10_makes_41 : decode cX10_makes 41 = .ok (.iload_n 1, 1) := by decide +kernel
theorem dX10_makes_42 : decode cX10_makes 42 = .ok (.iload_n 2, 1) := by decide +kernel
theorem dX10_makes_43 : decode cX10_makes 43 = .ok (.iand, 1) := by decide +kernel
theorem dX10_makes_44 : decode cX10_makes 44 = .ok (.isub, 1) := by decide +kernel
theorem dX10_makes_45 : decode cX10_makes 45 = .ok (.ireturn, 1) := by decide +kernel
theorem dX10_makes_46 : decode cX10_makes 46 = .ok (.iconst 1, 1) := by decide +kernel
theorem dX10_makes_47 : decode cX10_makes 47 = .ok (.iload_n 1, 1) := by decide +kernel
theorem dX10_makes_48 : decode cX10_makes 48 = .ok (.iload_n 2, 1) := by decide +kernel
theorem dX10_makes_49 : decode cX10_makes 49 = .ok (.ior, 1) := by decide +kernel
theorem dX10_makes_50 : decode cX10_makes 50 = .ok (.isub, 1) := by decide +kernel
theorem dX10_makes_51 : decode cX10_makes 51 = .ok (.ireturn, 1) := by decide +kernel
theorem dX10_makes_52 : decode cX10_makes 52 = .ok (.iconst 1, 1) := by decide +kernel
theorem dX10_makes_53 : decode cX10_makes 53 = .ok (.iload_n 1, 1) := by decide +kernel
theorem dX10_makes_54 : decode cX10_makes 54 = .ok (.isub, 1) := by decide +kernel
theorem dX10_makes_55 : decode cX10_makes 55 = .ok (.ireturn, 1) := by decide +kernel
theorem dX10_swapped_0 : decode cX10_swapped 0 = .ok (.iload_n 0, 1) := by decide +kernel
theorem dX10_swapped_1 : decode cX10_swapped 1 = .ok (.iconst 2, 1) := by decide +kernel
theorem dX10_swapped_2 : decode cX10_swapped 2 = .ok (.if_icmp .ge 9, 3) := by decide +kernel
theorem dX10_swapped_5 : decode cX10_swapped 5 = .ok (.iconst 1, 1) := by decide +kernel
theorem dX10_swapped_6 : decode cX10_swapped 6 = .ok (.iload_n 0, 1) := by decide +kernel
theorem dX10_swapped_7 : decode cX10_swapped 7 = .ok (.isub, 1) := by decide +kernel
theorem dX10_swapped_8 : decode cX10_swapped 8 = .ok (.goto 6, 3) := by decide +kernel
theorem dX10_swapped_11 : decode cX10_swapped 11 = .ok (.iconst 5, 1) := by decide +kernel
theorem dX10_swapped_12 : decode cX10_swapped 12 = .ok (.iload_n 0, 1) := by decide +kernel
theorem dX10_swapped_13 : decode cX10_swapped 13 = .ok (.isub, 1) := by decide +kernel
theorem dX10_swapped_14 : decode cX10_swapped 14 = .ok (.ireturn, 1) := by decide +kernel
set_option maxRecDepth 20000 in
theorem ggX10_valueOf_X10_swapped : GoodIn wsX10_valueOf wsX10_swapped := goodIn_r _ [4] (by decide +kernel) (by decide +kernel)
set_option maxRecDepth 20000 in
theorem gX10_valueOf_X10_swapped : GoodIn wsX10_valueOf (va_wsS RX10 160 yX10_swapped wsX10_swapped) := goodIn_app (goodIn_of _ (by decide +kernel)) ggX10_valueOf_X10_swapped
theorem dX10_valueOf_0 : decode cX10_valueOf 0 = .ok (.iload_n 0, 1) := by decide +kernel
theorem dX10_valueOf_1 : decode cX10_valueOf 1 = .ok (.iconst 4, 1) := by decide +kernel
theorem dX10_valueOf_2 : decode cX10_valueOf 2 = .ok (.if_icmp .ne 8, 3) := by decide +kernel
theorem dX10_valueOf_5 : decode cX10_valueOf 5 = .ok (.iload_n 1, 1) := by decide +kernel
theorem dX10_valueOf_6 : decode cX10_valueOf 6 = .ok (.invokestatic 160, 3) := by decide +kernel
theorem dX10_valueOf_9 : decode cX10_valueOf 9 = .ok (.ireturn, 1) := by decide +kernel
theorem dX10_valueOf_10 : decode cX10_valueOf 10 = .ok (.iload_n 0, 1) := by decide +kernel
theorem dX10_valueOf_11 : decode cX10_valueOf 11 = .ok (.ifCond .eq 8, 3) := by decide +kernel
theorem dX10_valueOf_14 : decode cX10_valueOf 14 = .ok (.iload_n 0, 1) := by decide +kernel
theorem dX10_valueOf_15 : decode cX10_valueOf 15 = .ok (.iconst 2, 1) := by decide +kernel
theorem dX10_valueOf_16 : decode cX10_valueOf 16 = .ok (.if_icmp .ne 48, 3) := by decide +kernel
theorem dX10_valueOf_19 : decode cX10_valueOf 19 = .ok (.iload_n 1, 1) := by decide +kernel
theorem dX10_valueOf_20 : decode cX10_valueOf 20 = .ok (.ifCond .eq 7, 3) := by decide +kernel
theorem dX10_valueOf_23 : decode cX10_valueOf 23 = .ok (.iload_n 2, 1) := by decide +kernel
theorem dX10_valueOf_24 : decode cX10_valueOf 24 = .ok (.ifCond .ne 7, 3) := by decide +kernel
theorem dX10_valueOf_27 : decode cX10_valueOf 27 = .ok (.iconst 0, 1) := by decide +kernel
theorem dX10_valueOf_28 : decode cX10_valueOf 28 = .ok (.goto 32, 3) := by decide +kernel
theorem dX10_valueOf_31 : decode cX10_valueOf 31 = .ok (.iload_n 1, 1) := by decide +kernel
theorem dX10_valueOf_32 : decode cX10_valueOf 32 = .ok (.iconst 1, 1) := by decide +kernel
theorem dX10_valueOf_33 : decode cX10_valueOf 33 = .ok (.if_icmp .ne 12, 3) := by decide +kernel
theorem dX10_valueOf_36 : decode cX10_valueOf 36 = .ok (.iload_n 2, 1) := by decide +kernel
theorem dX10_valueOf_37 : decode cX10_valueOf 37 = .ok (.iconst 1, 1) := by decide +kernel
theorem dX10_valueOf_38 : decode cX10_valueOf 38 = .ok (.if_icmp .ne 7, 3) := by decide +kernel
theorem dX10_valueOf_41 : decode cX10_valueOf 41 = .ok (.iconst 1, 1) := by decide +kernel
theorem dX10_valueOf_42 : decode cX10_valueOf 42 = .ok (.goto 18, 3) := by decide +kernel
theorem dX10_valueOf_45 : decode cX10_valueOf 45 = .ok (.iload_n 1, 1) := by decide +kernel
theorem dX10_valueOf_46 : decode cX10_valueOf 46 = .ok (.iconst 2, 1) := by decide +kernel
theorem dX10_valueOf_47 : decode cX10_valueOf 47 = .ok (.if_icmp .eq 12, 3) := by decide +kernel
theorem dX10_valueOf_50 : decode cX10_valueOf 50 = .ok (.iload_n 2, 1) := by decide +kernel
theorem dX10_valueOf_51 : decode cX10_valueOf 51 = .ok (.iconst 2, 1) := by decide +kernel
theorem dX10_valueOf_52 : decode cX10_valueOf 52 = .ok (.if_icmp .eq 7, 3) := by decide +kernel
theorem dX10_valueOf_55 : decode cX10_valueOf 55 = .ok (.iconst 3, 1) := by decide +kernel
theorem dX10_valueOf_56 : decode cX10_valueOf 56 = .ok (.goto 4, 3) := by decide +kernel
theorem dX10_valueOf_59 : decode cX10_valueOf 59 = .ok (.iconst 2, 1) := by decide +kernel
theorem dX10_valueOf_60 : decode cX10_valueOf 60 = .ok (.istore_n 3, 1) := by decide +kernel
theorem dX10_valueOf_61 : decode cX10_valueOf 61 = .ok (.goto 45, 3) := by decide +kernel
theorem dX10_valueOf_64 : decode cX10_valueOf 64 = .ok (.iload_n 1, 1) := by decide +kernel
theorem dX10_valueOf_65 : decode cX10_valueOf 65 = .ok (.iconst 1, 1) := by decide +kernel
theorem dX10_valueOf_66 : decode cX10_valueOf 66 = .ok (.if_icmp .eq 8, 3) := by decide +kernel
theorem dX10_valueOf_69 : decode cX10_valueOf 69 = .ok (.iload_n 2, 1) := by decide +kernel
theorem dX10_valueOf_70 : decode cX10_valueOf 70 = .ok (.iconst 1, 1) := by decide +kernel
theorem dX10_valueOf_71 : decode cX10_valueOf 71 = .ok (.if_icmp .ne 7, 3) := by decide +kernel
theorem dX10_valueOf_74 : decode cX10_valueOf 74 = .ok (.iconst 1, 1) := by decide +kernel
theorem dX10_valueOf_75 : decode cX10_valueOf 75 = .ok (.goto 30, 3) := by decide +kernel
theorem dX10_valueOf_78 : decode cX10_valueOf 78 = .ok (.iload_n 1, 1) := by decide +kernel
theorem dX10_valueOf_79 : decode cX10_valueOf 79 = .ok (.ifCond .ne 11, 3) := by decide +kernel
theorem dX10_valueOf_82 : decode cX10_valueOf 82 = .ok (.iload_n 2, 1) := by decide +kernel
theorem dX10_valueOf_83 : decode cX10_valueOf 83 = .ok (.ifCond .ne 7, 3) := by decide +kernel
theorem dX10_valueOf_86 : decode cX10_valueOf 86 = .ok (.iconst 0, 1) := by decide +kernel
theorem dX10_valueOf_87 : decode cX10_valueOf 87 = .ok (.goto 18, 3) := by decide +kernel
theorem dX10_valueOf_90 : decode cX10_valueOf 90 = .ok (.iload_n 1, 1) := by decide +kernel
theorem dX10_valueOf_91 : decode cX10_valueOf 91 = .ok (.iconst 3, 1) := by decide +kernel
theorem dX10_valueOf_92 : decode cX10_valueOf 92 = .ok (.if_icmp .eq 12, 3) := by decide +kernel
theorem dX10_valueOf_95 : decode cX10_valueOf 95 = .ok (.iload_n 2, 1) := by decide +kernel
theorem dX10_valueOf_96 : decode cX10_valueOf 96 = .ok (.iconst 3, 1) := by decide +kernel
theorem dX10_valueOf_97 : decode cX10_valueOf 97 = .ok (.if_icmp .eq 7, 3) := by decide +kernel
theorem dX10_valueOf_100 : decode cX10_valueOf 100 = .ok (.iconst 2, 1) := by decide +kernel
theorem dX10_valueOf_101 : decode cX10_valueOf 101 = .ok (.goto 4, 3) := by decide +kernel
theorem dX10_valueOf_104 : decode cX10_valueOf 104 = .ok (.iconst 3, 1) := by decide +kernel
theorem dX10_valueOf_105 : decode cX10_valueOf 105 = .ok (.istore_n 3, 1) := by decide +kernel
theorem dX10_valueOf_106 : decode cX10_valueOf 106 = .ok (.iload_n 0, 1) := by decide +kernel
theorem dX10_valueOf_107 : decode cX10_valueOf 107 = .ok (.iconst 2, 1) := by decide +kernel
theorem dX10_valueOf_108 : decode cX10_valueOf 108 = .ok (.if_icmp .ge 7, 3) := by decide +kernel
theorem dX10_valueOf_111 : decode cX10_valueOf 111 = .ok (.iload_n 3, 1) := by decide +kernel
theorem dX10_valueOf_112 : decode cX10_valueOf 112 = .ok (.goto 7, 3) := by decide +kernel
theorem dX10_valueOf_115 : decode cX10_valueOf 115 = .ok (.iload_n 3, 1) := by decide +kernel
theorem dX10_valueOf_116 : decode cX10_valueOf 116 = .ok (.invokestatic 160, 3) := by decide +kernel
theorem dX10_valueOf_119 : decode cX10_valueOf 119 = .ok (.ireturn, 1) := by decide +kernel
set_option maxRecDepth 20000 in
theorem ggX10_findPair_X10_makes : GoodIn wsX10_findPair wsX10_makes := goodIn_r _ [12] (by decide +kernel) (by decide +kernel)
set_option maxRecDepth 20000 in
theorem gX10_findPair_X10_makes : GoodIn wsX10_findPair (va_wsS RX10 163 yX10_makes wsX10_makes) := goodIn_app (goodIn_of _ (by decide +kernel)) ggX10_findPair_X10_makes
set_option maxRecDepth 20000 in
theorem ggX10_findPair_X10_valueOf : GoodIn wsX10_findPair wsX10_valueOf := goodIn_r _ [15, 16, 17, 11, 18] (by decide +kernel) (by decide +kernel)
set_option maxRecDepth 20000 in
theorem gX10_findPair_X10_valueOf : GoodIn wsX10_findPair (va_wsS RX10 167 yX10_valueOf wsX10_valueOf) := goodIn_app (goodIn_of _ (by decide +kernel)) ggX10_findPair_X10_valueOf
theorem dX10_findPair_0 : decode cX10_findPair 0 = .ok (.iconst 0, 1) := by decide +kernel
theorem dX10_findPair_1 : decode cX10_findPair 1 = .ok (.istore_n 3, 1) := by decide +kernel
theorem dX10_findPair_2 : decode cX10_findPair 2 = .ok (.iload_n 3, 1) := by decide +kernel
theorem dX10_findPair_3 : decode cX10_findPair 3 = .ok (.aload_n 0, 1) := by decide +kernel
theorem dX10_findPair_4 : decode cX10_findPair 4 = .ok (.getfield 112, 3) := by decide +kernel
theorem dX10_findPair_7 : decode cX10_findPair 7 = .ok (.if_icmp .ge 75, 3) := by decide +kernel
theorem dX10_findPair_10 : decode cX10_findPair 10 = .ok (.aload_n 0, 1) := by decide +kernel
theorem dX10_findPair_11 : decode cX10_findPair 11 = .ok (.getfield 40, 3) := by decide +kernel
theorem dX10_findPair_14 : decode cX10_findPair 14 = .ok (.iload_n 3, 1) := by decide +kernel
theorem dX10_findPair_15 : decode cX10_findPair 15 = .ok (.iload_n 2, 1) := by decide +kernel
theorem dX10_findPair_16 : decode cX10_findPair 16 = .ok (.bipush 16, 2) := by decide +kernel
theorem dX10_findPair_18 : decode cX10_findPair 18 = .ok (.idiv, 1) := by decide +kernel
theorem dX10_findPair_19 : decode cX10_findPair 19 = .ok (.iload_n 3, 1) := by decide +kernel
theorem dX10_findPair_20 : decode cX10_findPair 20 = .ok (.ishr, 1) := by decide +kernel
theorem dX10_findPair_21 : decode cX10_findPair 21 = .ok (.iconst 1, 1) := by decide +kernel
theorem dX10_findPair_22 : decode cX10_findPair 22 = .ok (.iand, 1) := by decide +kernel
theorem dX10_findPair_23 : decode cX10_findPair 23 = .ok (.iastore, 1) := by decide +kernel
theorem dX10_findPair_24 : decode cX10_findPair 24 = .ok (.aload_n 0, 1) := by decide +kernel
theorem dX10_findPair_25 : decode cX10_findPair 25 = .ok (.getfield 43, 3) := by decide +kernel
theorem dX10_findPair_28 : decode cX10_findPair 28 = .ok (.iload_n 3, 1) := by decide +kernel
theorem dX10_findPair_29 : decode cX10_findPair 29 = .ok (.iload_n 2, 1) := by decide +kernel
theorem dX10_findPair_30 : decode cX10_findPair 30 = .ok (.bipush 16, 2) := by decide +kernel
theorem dX10_findPair_32 : decode cX10_findPair 32 = .ok (.irem, 1) := by decide +kernel
theorem dX10_findPair_33 : decode cX10_findPair 33 = .ok (.iload_n 3, 1) := by decide +kernel
theorem dX10_findPair_34 : decode cX10_findPair 34 = .ok (.ishr, 1) := by decide +kernel
theorem dX10_findPair_35 : decode cX10_findPair 35 = .ok (.iconst 1, 1) := by decide +kernel
theorem dX10_findPair_36 : decode cX10_findPair 36 = .ok (.iand, 1) := by decide +kernel
theorem dX10_findPair_37 : decode cX10_findPair 37 = .ok (.iastore, 1) := by decide +kernel
theorem dX10_findPair_38 : decode cX10_findPair 38 = .ok (.aload_n 0, 1) := by decide +kernel
theorem dX10_findPair_39 : decode cX10_findPair 39 = .ok (.getfield 46, 3) := by decide +kernel
theorem dX10_findPair_42 : decode cX10_findPair 42 = .ok (.iload_n 3, 1) := by decide +kernel
theorem dX10_findPair_43 : decode cX10_findPair 43 = .ok (.aload_n 0, 1) := by decide +kernel
theorem dX10_findPair_44 : decode cX10_findPair 44 = .ok (.getfield 40, 3) := by decide +kernel
theorem dX10_findPair_47 : decode cX10_findPair 47 = .ok (.iload_n 3, 1) := by decide +kernel
theorem dX10_findPair_48 : decode cX10_findPair 48 = .ok (.iaload, 1) := by decide +kernel
theorem dX10_findPair_49 : decode cX10_findPair 49 = .ok (.aload_n 0, 1) := by decide +kernel
theorem dX10_findPair_50 : decode cX10_findPair 50 = .ok (.getfield 43, 3) := by decide +kernel
theorem dX10_findPair_53 : decode cX10_findPair 53 = .ok (.iload_n 3, 1) := by decide +kernel
theorem dX10_findPair_54 : decode cX10_findPair 54 = .ok (.iaload, 1) := by decide +kernel
theorem dX10_findPair_55 : decode cX10_findPair 55 = .ok (.if_icmp .ne 12, 3) := by decide +kernel
theorem dX10_findPair_58 : decode cX10_findPair 58 = .ok (.aload_n 0, 1) := by decide +kernel
theorem dX10_findPair_59 : decode cX10_findPair 59 = .ok (.getfield 43, 3) := by decide +kernel
theorem dX10_findPair_62 : decode cX10_findPair 62 = .ok (.iload_n 3, 1) := by decide +kernel
theorem dX10_findPair_63 : decode cX10_findPair 63 = .ok (.iaload, 1) := by decide +kernel
theorem dX10_findPair_64 : decode cX10_findPair 64 = .ok (.goto 11, 3) := by decide +kernel
theorem dX10_findPair_67 : decode cX10_findPair 67 = .ok (.iconst 2, 1) := by decide +kernel
theorem dX10_findPair_68 : decode cX10_findPair 68 = .ok (.aload_n 0, 1) := by decide +kernel
theorem dX10_findPair_69 : decode cX10_findPair 69 = .ok (.getfield 43, 3) := by decide +kernel
theorem dX10_findPair_72 : decode cX10_findPair 72 = .ok (.iload_n 3, 1) := by decide +kernel
theorem dX10_findPair_73 : decode cX10_findPair 73 = .ok (.iaload, 1) := by decide +kernel
theorem dX10_findPair_74 : decode cX10_findPair 74 = .ok (.iadd, 1) := by decide +kernel
theorem dX10_findPair_75 : decode cX10_findPair 75 = .ok (.iastore, 1) := by decide +kernel
theorem dX10_findPair_76 : decode cX10_findPair 76 = .ok (.iinc 3 1, 3) := by decide +kernel
theorem dX10_findPair_79 : decode cX10_findPair 79 = .ok (.goto (-77), 3) := by decide +kernel
theorem dX10_findPair_82 : decode cX10_findPair 82 = .ok (.iconst 0, 1) := by decide +kernel
theorem dX10_findPair_83 : decode cX10_findPair 83 = .ok (.istore_n 3, 1) := by decide +kernel
theorem dX10_findPair_84 : decode cX10_findPair 84 = .ok (.iload_n 3, 1) := by decide +kernel
theorem dX10_findPair_85 : decode cX10_findPair 85 = .ok (.aload_n 0, 1) := by decide +kernel
theorem dX10_findPair_86 : decode cX10_findPair 86 = .ok (.getfield 115, 3) := by decide +kernel
theorem dX10_findPair_89 : decode cX10_findPair 89 = .ok (.if_icmp .ge 145, 3) := by decide +kernel
theorem dX10_findPair_92 : decode cX10_findPair 92 = .ok (.aload_n 0, 1) := by decide +kernel
theorem dX10_findPair_93 : decode cX10_findPair 93 = .ok (.getfield 7, 3) := by decide +kernel
theorem dX10_findPair_96 : decode cX10_findPair 96 = .ok (.bipush 16, 2) := by decide +kernel
theorem dX10_findPair_98 : decode cX10_findPair 98 = .ok (.iload_n 1, 1) := by decide +kernel
theorem dX10_findPair_99 : decode cX10_findPair 99 = .ok (.imul, 1) := by decide +kernel
theorem dX10_findPair_100 : decode cX10_findPair 100 = .ok (.iconst 0, 1) := by decide +kernel
theorem dX10_findPair_101 : decode cX10_findPair 101 = .ok (.iadd, 1) := by decide +kernel
theorem dX10_findPair_102 : decode cX10_findPair 102 = .ok (.iload_n 3, 1) := by decide +kernel
theorem dX10_findPair_103 : decode cX10_findPair 103 = .ok (.iadd, 1) := by decide +kernel
theorem dX10_findPair_104 : decode cX10_findPair 104 = .ok (.iaload, 1) := by decide +kernel
theorem dX10_findPair_105 : decode cX10_findPair 105 = .ok (.istore 4, 2) := by decide +kernel
theorem dX10_findPair_107 : decode cX10_findPair 107 = .ok (.aload_n 0, 1) := by decide +kernel
theorem dX10_findPair_108 : decode cX10_findPair 108 = .ok (.getfield 16, 3) := by decide +kernel
theorem dX10_findPair_111 : decode cX10_findPair 111 = .ok (.iload_n 3, 1) := by decide +kernel
theorem dX10_findPair_112 : decode cX10_findPair 112 = .ok (.iaload, 1) := by decide +kernel
theorem dX10_findPair_113 : decode cX10_findPair 113 = .ok (.bipush (-9), 2) := by decide +kernel
theorem dX10_findPair_115 : decode cX10_findPair 115 = .ok (.if_icmp .ne 12, 3) := by decide +kernel
theorem dX10_findPair_118 : decode cX10_findPair 118 = .ok (.aload_n 0, 1) := by decide +kernel
theorem dX10_findPair_119 : decode cX10_findPair 119 = .ok (.getfield 13, 3) := by decide +kernel
theorem dX10_findPair_122 : decode cX10_findPair 122 = .ok (.iload_n 3, 1) := by decide +kernel
theorem dX10_findPair_123 : decode cX10_findPair 123 = .ok (.iaload, 1) := by decide +kernel
theorem dX10_findPair_124 : decode cX10_findPair 124 = .ok (.goto 9, 3) := by decide +kernel
theorem dX10_findPair_127 : decode cX10_findPair 127 = .ok (.aload_n 0, 1) := by decide +kernel
theorem dX10_findPair_128 : decode cX10_findPair 128 = .ok (.getfield 16, 3) := by decide +kernel
theorem dX10_findPair_131 : decode cX10_findPair 131 = .ok (.iload_n 3, 1) := by decide +kernel
theorem dX10_findPair_132 : decode cX10_findPair 132 = .ok (.iaload, 1) := by decide +kernel
theorem dX10_findPair_133 : decode cX10_findPair 133 = .ok (.istore 5, 2) := by decide +kernel
theorem dX10_findPair_135 : decode cX10_findPair 135 = .ok (.aload_n 0, 1) := by decide +kernel
theorem dX10_findPair_136 : decode cX10_findPair 136 = .ok (.getfield 40, 3) := by decide +kernel
theorem dX10_findPair_139 : decode cX10_findPair 139 = .ok (.iconst 4, 1) := by decide +kernel
theorem dX10_findPair_140 : decode cX10_findPair 140 = .ok (.iload_n 3, 1) := by decide +kernel
theorem dX10_findPair_141 : decode cX10_findPair 141 = .ok (.iadd, 1) := by decide +kernel
theorem dX10_findPair_142 : decode cX10_findPair 142 = .ok (.iload 4, 2) := by decide +kernel
theorem dX10_findPair_144 : decode cX10_findPair 144 = .ok (.aload_n 0, 1) := by decide +kernel
theorem dX10_findPair_145 : decode cX10_findPair 145 = .ok (.getfield 40, 3) := by decide +kernel
theorem dX10_findPair_148 : decode cX10_findPair 148 = .ok (.aload_n 0, 1) := by decide +kernel
theorem dX10_findPair_149 : decode cX10_findPair 149 = .ok (.getfield 13, 3) := by decide +kernel
theorem dX10_findPair_152 : decode cX10_findPair 152 = .ok (.iload_n 3, 1) := by decide +kernel
theorem dX10_findPair_153 : decode cX10_findPair 153 = .ok (.iaload, 1) := by decide +kernel
theorem dX10_findPair_154 : decode cX10_findPair 154 = .ok (.iaload, 1) := by decide +kernel
theorem dX10_findPair_155 : decode cX10_findPair 155 = .ok (.aload_n 0, 1) := by decide +kernel
theorem dX10_findPair_156 : decode cX10_findPair 156 = .ok (.getfield 40, 3) := by decide +kernel
theorem dX10_findPair_159 : decode cX10_findPair 159 = .ok (.iload 5, 2) := by decide +kernel
theorem dX10_findPair_161 : decode cX10_findPair 161 = .ok (.iaload, 1) := by decide +kernel
theorem dX10_findPair_162 : decode cX10_findPair 162 = .ok (.invokestatic 163, 3) := by decide +kernel
theorem dX10_findPair_165 : decode cX10_findPair 165 = .ok (.iastore, 1) := by decide +kernel
theorem dX10_findPair_166 : decode cX10_findPair 166 = .ok (.aload_n 0, 1) := by decide +kernel
theorem dX10_findPair_167 : decode cX10_findPair 167 = .ok (.getfield 43, 3) := by decide +kernel
theorem dX10_findPair_170 : decode cX10_findPair 170 = .ok (.iconst 4, 1) := by decide +kernel
theorem dX10_findPair_171 : decode cX10_findPair 171 = .ok (.iload_n 3, 1) := by decide +kernel
theorem dX10_findPair_172 : decode cX10_findPair 172 = .ok (.iadd, 1) := by decide +kernel
theorem dX10_findPair_173 : decode cX10_findPair 173 = .ok (.iload 4, 2) := by decide +kernel
theorem dX10_findPair_175 : decode cX10_findPair 175 = .ok (.aload_n 0, 1) := by decide +kernel
theorem dX10_findPair_176 : decode cX10_findPair 176 = .ok (.getfield 43, 3) := by decide +kernel
theorem dX10_findPair_179 : decode cX10_findPair 179 = .ok (.aload_n 0, 1) := by decide +kernel
theorem dX10_findPair_180 : decode cX10_findPair 180 = .ok (.getfield 13, 3) := by decide +kernel
theorem dX10_findPair_183 : decode cX10_findPair 183 = .ok (.iload_n 3, 1) := by decide +kernel
theorem dX10_findPair_184 : decode cX10_findPair 184 = .ok (.iaload, 1) := by decide +kernel
theorem dX10_findPair_185 : decode cX10_findPair 185 = .ok (.iaload, 1) := by decide +kernel
theorem dX10_findPair_186 : decode cX10_findPair 186 = .ok (.aload_n 0, 1) := by decide +kernel
theorem dX10_findPair_187 : decode cX10_findPair 187 = .ok (.getfield 43, 3) := by decide +kernel
theorem dX10_findPair_190 : decode cX10_findPair 190 = .ok (.iload 5, 2) := by decide +kernel
theorem dX10_findPair_192 : decode cX10_findPair 192 = .ok (.iaload, 1) := by decide +kernel
theorem dX10_findPair_193 : decode cX10_findPair 193 = .ok (.invokestatic 163, 3) := by decide +kernel
theorem dX10_findPair_196 : decode cX10_findPair 196 = .ok (.iastore, 1) := by decide +kernel
theorem dX10_findPair_197 : decode cX10_findPair 197 = .ok (.aload_n 0, 1) := by decide +kernel
theorem dX10_findPair_198 : decode cX10_findPair 198 = .ok (.getfield 46, 3) := by decide +kernel
theorem dX10_findPair_201 : decode cX10_findPair 201 = .ok (.iconst 4, 1) := by decide +kernel
theorem dX10_findPair_202 : decode cX10_findPair 202 = .ok (.iload_n 3, 1) := by decide +kernel
theorem dX10_findPair_203 : decode cX10_findPair 203 = .ok (.iadd, 1) := by decide +kernel
theorem dX10_findPair_204 : decode cX10_findPair 204 = .ok (.iload 4, 2) := by decide +kernel
theorem dX10_findPair_206 : decode cX10_findPair 206 = .ok (.aload_n 0, 1) := by decide +kernel
theorem dX10_findPair_207 : decode cX10_findPair 207 = .ok (.getfield 46, 3) := by decide +kernel
theorem dX10_findPair_210 : decode cX10_findPair 210 = .ok (.aload_n 0, 1) := by decide +kernel
theorem dX10_findPair_211 : decode cX10_findPair 211 = .ok (.getfield 13, 3) := by decide +kernel
theorem dX10_findPair_214 : decode cX10_findPair 214 = .ok (.iload_n 3, 1) := by decide +kernel
theorem dX10_findPair_215 : decode cX10_findPair 215 = .ok (.iaload, 1) := by decide +kernel
theorem dX10_findPair_216 : decode cX10_findPair 216 = .ok (.iaload, 1) := by decide +kernel
theorem dX10_findPair_217 : decode cX10_findPair 217 = .ok (.aload_n 0, 1) := by decide +kernel
theorem dX10_findPair_218 : decode cX10_findPair 218 = .ok (.getfield 46, 3) := by decide +kernel
theorem dX10_findPair_221 : decode cX10_findPair 221 = .ok (.iload 5, 2) := by decide +kernel
theorem dX10_findPair_223 : decode cX10_findPair 223 = .ok (.iaload, 1) := by decide +kernel
theorem dX10_findPair_224 : decode cX10_findPair 224 = .ok (.invokestatic 167, 3) := by decide +kernel
theorem dX10_findPair_227 : decode cX10_findPair 227 = .ok (.iastore, 1) := by decide +kernel
theorem dX10_findPair_228 : decode cX10_findPair 228 = .ok (.iinc 3 1, 3) := by decide +kernel
theorem dX10_findPair_231 : decode cX10_findPair 231 = .ok (.goto (-147), 3) := by decide +kernel
theorem dX10_findPair_234 : decode cX10_findPair 234 = .ok (.return_, 1) := by decide +kernel
set_option maxRecDepth 20000 in
theorem ggX10_isPair_X10_in : GoodIn wsX10_isPair wsX10_in := goodIn_r _ [6] (by decide +kernel) (by decide +kernel)
set_option maxRecDepth 20000 in
theorem gX10_isPair_X10_in : GoodIn wsX10_isPair (va_wsS RX10 76 yX10_in wsX10_in) := goodIn_app (goodIn_of _ (by decide +kernel)) ggX10_isPair_X10_in
theorem dX10_isPair_0 : decode cX10_isPair 0 = .ok (.iload_n 1, 1) := by decide +kernel
theorem dX10_isPair_1 : decode cX10_isPair 1 = .ok (.i2l, 1) := by decide +kernel
theorem dX10_isPair_2 : decode cX10_isPair 2 = .ok (.lconst 0, 1) := by decide +kernel
theorem dX10_isPair_3 : decode cX10_isPair 3 = .ok (.ldc2_w 74, 3) := by decide +kernel
theorem dX10_isPair_6 : decode cX10_isPair 6 = .ok (.invokestatic 76, 3) := by decide +kernel
theorem dX10_isPair_9 : decode cX10_isPair 9 = .ok (.ifCond .eq 33, 3) := by decide +kernel
theorem dX10_isPair_12 : decode cX10_isPair 12 = .ok (.iload_n 1, 1) := by decide +kernel
theorem dX10_isPair_13 : decode cX10_isPair 13 = .ok (.bipush 16, 2) := by decide +kernel
theorem dX10_isPair_15 : decode cX10_isPair 15 = .ok (.idiv, 1) := by decide +kernel
theorem dX10_isPair_16 : decode cX10_isPair 16 = .ok (.iconst 1, 1) := by decide +kernel
theorem dX10_isPair_17 : decode cX10_isPair 17 = .ok (.aload_n 0, 1) := by decide +kernel
theorem dX10_isPair_18 : decode cX10_isPair 18 = .ok (.getfield 112, 3) := by decide +kernel
theorem dX10_isPair_21 : decode cX10_isPair 21 = .ok (.ishl, 1) := by decide +kernel
theorem dX10_isPair_22 : decode cX10_isPair 22 = .ok (.if_icmp .ge 20, 3) := by decide +kernel
theorem dX10_isPair_25 : decode cX10_isPair 25 = .ok (.iload_n 1, 1) := by decide +kernel
theorem dX10_isPair_26 : decode cX10_isPair 26 = .ok (.bipush 16, 2) := by decide +kernel
theorem dX10_isPair_28 : decode cX10_isPair 28 = .ok (.irem, 1) := by decide +kernel
theorem dX10_isPair_29 : decode cX10_isPair 29 = .ok (.iconst 1, 1) := by decide +kernel
theorem dX10_isPair_30 : decode cX10_isPair 30 = .ok (.aload_n 0, 1) := by decide +kernel
theorem dX10_isPair_31 : decode cX10_isPair 31 = .ok (.getfield 112, 3) := by decide +kernel
theorem dX10_isPair_34 : decode cX10_isPair 34 = .ok (.ishl, 1) := by decide +kernel
theorem dX10_isPair_35 : decode cX10_isPair 35 = .ok (.if_icmp .ge 7, 3) := by decide +kernel
theorem dX10_isPair_38 : decode cX10_isPair 38 = .ok (.iconst 1, 1) := by decide +kernel
theorem dX10_isPair_39 : decode cX10_isPair 39 = .ok (.goto 4, 3) := by decide +kernel
theorem dX10_isPair_42 : decode cX10_isPair 42 = .ok (.iconst 0, 1) := by decide +kernel
theorem dX10_isPair_43 : decode cX10_isPair 43 = .ok (.ireturn, 1) := by decide +kernel
set_option maxRecDepth 20000 in
theorem ggX10_value_X10_isGate : GoodIn wsX10_value wsX10_isGate := goodIn_r _ [6, 7, 8, 9, 5, 10, 35, 36, 37, 38, 39, 40, 41, 42, 43, 44, 45, 46, 47, 48, 49, 50, 51, 52, 53, 54, 55, 56, 57, 58, 59, 60, 61, 62, 63, 64, 65] (by decide +kernel) (by decide +kernel)
set_option maxRecDepth 20000 in
theorem gX10_value_X10_isGate : GoodIn wsX10_value (wsV RX10 127 RX10 yX10_isGate wsX10_isGate) := goodIn_app (goodIn_of _ (by decide +kernel)) ggX10_value_X10_isGate
set_option maxRecDepth 20000 in
theorem ggX10_value_X10_isPair : GoodIn wsX10_value wsX10_isPair := goodIn_r _ [14, 15, 16, 8, 9, 5, 10, 35, 36, 37, 38, 39, 40, 41, 42, 43, 44, 45, 46, 47, 48, 49, 50, 51, 52, 53, 54, 55, 56, 57, 58, 59, 60, 61, 62, 63, 64, 65] (by decide +kernel) (by decide +kernel)
set_option maxRecDepth 20000 in
theorem gX10_value_X10_isPair : GoodIn wsX10_value (wsV RX10 170 RX10 yX10_isPair wsX10_isPair) := goodIn_app (goodIn_of _ (by decide +kernel)) ggX10_value_X10_isPair
set_option maxRecDepth 20000 in
theorem ggX10_value_X10_findPair : GoodIn wsX10_value wsX10_findPair := goodIn_r _ [20, 16, 21, 22, 1, 7, 23, 24, 25, 26, 27, 5, 28, 29, 30, 31, 32, 33, 34, 35, 36, 37, 38, 39, 40, 41, 42, 43, 44, 45, 46, 47, 48, 49, 50, 51, 52, 53, 54, 55, 56, 57, 58, 59, 60, 61, 62, 63, 64, 65] (by decide +kernel) (by decide +kernel)
set_option maxRecDepth 20000 in
theorem gX10_value_X10_findPair : GoodIn wsX10_value (wsV RX10 173 RX10 yX10_findPair wsX10_findPair) := goodIn_app (goodIn_of _ (by decide +kernel)) ggX10_value_X10_findPair
theorem dX10_value_0 : decode cX10_value 0 = .ok (.aload_n 0, 1) := by decide +kernel
theorem dX10_value_1 : decode cX10_value 1 = .ok (.iload_n 1, 1) := by decide +kernel
theorem dX10_value_2 : decode cX10_value 2 = .ok (.invokevirtual 127, 3) := by decide +kernel
theorem dX10_value_5 : decode cX10_value 5 = .ok (.ifCond .ne 5, 3) := by decide +kernel
theorem dX10_value_8 : decode cX10_value 8 = .ok (.iconst (-1), 1) := by decide +kernel
theorem dX10_value_9 : decode cX10_value 9 = .ok (.ireturn, 1) := by decide +kernel
theorem dX10_value_10 : decode cX10_value 10 = .ok (.aload_n 0, 1) := by decide +kernel
theorem dX10_value_11 : decode cX10_value 11 = .ok (.iload_n 2, 1) := by decide +kernel
theorem dX10_value_12 : decode cX10_value 12 = .ok (.invokevirtual 170, 3) := by decide +kernel
theorem dX10_value_15 : decode cX10_value 15 = .ok (.ifCond .ne 6, 3) := by decide +kernel
theorem dX10_value_18 : decode cX10_value 18 = .ok (.bipush (-2), 2) := by decide +kernel
theorem dX10_value_20 : decode cX10_value 20 = .ok (.ireturn, 1) := by decide +kernel
theorem dX10_value_21 : decode cX10_value 21 = .ok (.aload_n 0, 1) := by decide +kernel
theorem dX10_value_22 : decode cX10_value 22 = .ok (.iconst 0, 1) := by decide +kernel
theorem dX10_value_23 : decode cX10_value 23 = .ok (.iload_n 2, 1) := by decide +kernel
theorem dX10_value_24 : decode cX10_value 24 = .ok (.invokevirtual 173, 3) := by decide +kernel
theorem dX10_value_27 : decode cX10_value 27 = .ok (.aload_n 0, 1) := by decide +kernel
theorem dX10_value_28 : decode cX10_value 28 = .ok (.getfield 46, 3) := by decide +kernel
theorem dX10_value_31 : decode cX10_value 31 = .ok (.iconst 4, 1) := by decide +kernel
theorem dX10_value_32 : decode cX10_value 32 = .ok (.iload_n 1, 1) := by decide +kernel
theorem dX10_value_33 : decode cX10_value 33 = .ok (.iadd, 1) := by decide +kernel
theorem dX10_value_34 : decode cX10_value 34 = .ok (.iaload, 1) := by decide +kernel
theorem dX10_value_35 : decode cX10_value 35 = .ok (.ireturn, 1) := by decide +kernel
set_option maxRecDepth 20000 in
theorem ggX10_testsOf_X10_has : GoodIn wsX10_testsOf wsX10_has := goodIn_r _ [11] (by decide +kernel) (by decide +kernel)
set_option maxRecDepth 20000 in
theorem gX10_testsOf_X10_has : GoodIn wsX10_testsOf (va_wsS RX10 134 yX10_has wsX10_has) := goodIn_app (goodIn_of _ (by decide +kernel)) ggX10_testsOf_X10_has
theorem dX10_testsOf_0 : decode cX10_testsOf 0 = .ok (.aload_n 0, 1) := by decide +kernel
theorem dX10_testsOf_1 : decode cX10_testsOf 1 = .ok (.getfield 40, 3) := by decide +kernel
theorem dX10_testsOf_4 : decode cX10_testsOf 4 = .ok (.iload_n 2, 1) := by decide +kernel
theorem dX10_testsOf_5 : decode cX10_testsOf 5 = .ok (.iaload, 1) := by decide +kernel
theorem dX10_testsOf_6 : decode cX10_testsOf 6 = .ok (.aload_n 0, 1) := by decide +kernel
theorem dX10_testsOf_7 : decode cX10_testsOf 7 = .ok (.getfield 43, 3) := by decide +kernel
theorem dX10_testsOf_10 : decode cX10_testsOf 10 = .ok (.iload_n 2, 1) := by decide +kernel
theorem dX10_testsOf_11 : decode cX10_testsOf 11 = .ok (.iaload, 1) := by decide +kernel
theorem dX10_testsOf_12 : decode cX10_testsOf 12 = .ok (.if_icmp .ne 5, 3) := by decide +kernel
theorem dX10_testsOf_15 : decode cX10_testsOf 15 = .ok (.iconst 0, 1) := by decide +kernel
theorem dX10_testsOf_16 : decode cX10_testsOf 16 = .ok (.ireturn, 1) := by decide +kernel
theorem dX10_testsOf_17 : decode cX10_testsOf 17 = .ok (.iload_n 2, 1) := by decide +kernel
theorem dX10_testsOf_18 : decode cX10_testsOf 18 = .ok (.istore 4, 2) := by decide +kernel
theorem dX10_testsOf_20 : decode cX10_testsOf 20 = .ok (.iconst 2, 1) := by decide +kernel
theorem dX10_testsOf_21 : decode cX10_testsOf 21 = .ok (.istore 5, 2) := by decide +kernel
theorem dX10_testsOf_23 : decode cX10_testsOf 23 = .ok (.iconst 0, 1) := by decide +kernel
theorem dX10_testsOf_24 : decode cX10_testsOf 24 = .ok (.istore 6, 2) := by decide +kernel
theorem dX10_testsOf_26 : decode cX10_testsOf 26 = .ok (.iload 6, 2) := by decide +kernel
theorem dX10_testsOf_28 : decode cX10_testsOf 28 = .ok (.aload_n 0, 1) := by decide +kernel
theorem dX10_testsOf_29 : decode cX10_testsOf 29 = .ok (.getfield 115, 3) := by decide +kernel
theorem dX10_testsOf_32 : decode cX10_testsOf 32 = .ok (.if_icmp .ge 168, 3) := by decide +kernel
theorem dX10_testsOf_35 : decode cX10_testsOf 35 = .ok (.aload_n 0, 1) := by decide +kernel
theorem dX10_testsOf_36 : decode cX10_testsOf 36 = .ok (.getfield 7, 3) := by decide +kernel
theorem dX10_testsOf_39 : decode cX10_testsOf 39 = .ok (.bipush 16, 2) := by decide +kernel
theorem dX10_testsOf_41 : decode cX10_testsOf 41 = .ok (.iload_n 1, 1) := by decide +kernel
theorem dX10_testsOf_42 : decode cX10_testsOf 42 = .ok (.imul, 1) := by decide +kernel
theorem dX10_testsOf_43 : decode cX10_testsOf 43 = .ok (.iconst 0, 1) := by decide +kernel
theorem dX10_testsOf_44 : decode cX10_testsOf 44 = .ok (.iadd, 1) := by decide +kernel
theorem dX10_testsOf_45 : decode cX10_testsOf 45 = .ok (.iload 6, 2) := by decide +kernel
theorem dX10_testsOf_47 : decode cX10_testsOf 47 = .ok (.iadd, 1) := by decide +kernel
theorem dX10_testsOf_48 : decode cX10_testsOf 48 = .ok (.iaload, 1) := by decide +kernel
theorem dX10_testsOf_49 : decode cX10_testsOf 49 = .ok (.istore 7, 2) := by decide +kernel
theorem dX10_testsOf_51 : decode cX10_testsOf 51 = .ok (.iload_n 3, 1) := by decide +kernel
theorem dX10_testsOf_52 : decode cX10_testsOf 52 = .ok (.iload 6, 2) := by decide +kernel
theorem dX10_testsOf_54 : decode cX10_testsOf 54 = .ok (.invokestatic 134, 3) := by decide +kernel
theorem dX10_testsOf_57 : decode cX10_testsOf 57 = .ok (.ifCond .eq 117, 3) := by decide +kernel
theorem dX10_testsOf_60 : decode cX10_testsOf 60 = .ok (.iload 7, 2) := by decide +kernel
theorem dX10_testsOf_62 : decode cX10_testsOf 62 = .ok (.iconst 4, 1) := by decide +kernel
theorem dX10_testsOf_63 : decode cX10_testsOf 63 = .ok (.if_icmp .eq 111, 3) := by decide +kernel
theorem dX10_testsOf_66 : decode cX10_testsOf 66 = .ok (.aload_n 0, 1) := by decide +kernel
theorem dX10_testsOf_67 : decode cX10_testsOf 67 = .ok (.getfield 13, 3) := by decide +kernel
theorem dX10_testsOf_70 : decode cX10_testsOf 70 = .ok (.iload 6, 2) := by decide +kernel
theorem dX10_testsOf_72 : decode cX10_testsOf 72 = .ok (.iaload, 1) := by decide +kernel
theorem dX10_testsOf_73 : decode cX10_testsOf 73 = .ok (.iload 4, 2) := by decide +kernel
theorem dX10_testsOf_75 : decode cX10_testsOf 75 = .ok (.if_icmp .ne 13, 3) := by decide +kernel
theorem dX10_testsOf_78 : decode cX10_testsOf 78 = .ok (.aload_n 0, 1) := by decide +kernel
theorem dX10_testsOf_79 : decode cX10_testsOf 79 = .ok (.getfield 16, 3) := by decide +kernel
theorem dX10_testsOf_82 : decode cX10_testsOf 82 = .ok (.iload 6, 2) := by decide +kernel
theorem dX10_testsOf_84 : decode cX10_testsOf 84 = .ok (.iaload, 1) := by decide +kernel
theorem dX10_testsOf_85 : decode cX10_testsOf 85 = .ok (.goto 10, 3) := by decide +kernel
theorem dX10_testsOf_88 : decode cX10_testsOf 88 = .ok (.aload_n 0, 1) := by decide +kernel
theorem dX10_testsOf_89 : decode cX10_testsOf 89 = .ok (.getfield 13, 3) := by decide +kernel
theorem dX10_testsOf_92 : decode cX10_testsOf 92 = .ok (.iload 6, 2) := by decide +kernel
theorem dX10_testsOf_94 : decode cX10_testsOf 94 = .ok (.iaload, 1) := by decide +kernel
theorem dX10_testsOf_95 : decode cX10_testsOf 95 = .ok (.istore 8, 2) := by decide +kernel
theorem dX10_testsOf_97 : decode cX10_testsOf 97 = .ok (.iload 7, 2) := by decide +kernel
theorem dX10_testsOf_99 : decode cX10_testsOf 99 = .ok (.ifCond .eq 9, 3) := by decide +kernel
theorem dX10_testsOf_102 : decode cX10_testsOf 102 = .ok (.iload 7, 2) := by decide +kernel
theorem dX10_testsOf_104 : decode cX10_testsOf 104 = .ok (.iconst 2, 1) := by decide +kernel
theorem dX10_testsOf_105 : decode cX10_testsOf 105 = .ok (.if_icmp .ne 7, 3) := by decide +kernel
theorem dX10_testsOf_108 : decode cX10_testsOf 108 = .ok (.iconst 1, 1) := by decide +kernel
theorem dX10_testsOf_109 : decode cX10_testsOf 109 = .ok (.goto 4, 3) := by decide +kernel
theorem dX10_testsOf_112 : decode cX10_testsOf 112 = .ok (.iconst 0, 1) := by decide +kernel
theorem dX10_testsOf_113 : decode cX10_testsOf 113 = .ok (.istore 9, 2) := by decide +kernel
theorem dX10_testsOf_115 : decode cX10_testsOf 115 = .ok (.aload_n 0, 1) := by decide +kernel
theorem dX10_testsOf_116 : decode cX10_testsOf 116 = .ok (.getfield 43, 3) := by decide +kernel
theorem dX10_testsOf_119 : decode cX10_testsOf 119 = .ok (.iload 8, 2) := by decide +kernel
theorem dX10_testsOf_121 : decode cX10_testsOf 121 = .ok (.iaload, 1) := by decide +kernel
theorem dX10_testsOf_122 : decode cX10_testsOf 122 = .ok (.iload 9, 2) := by decide +kernel
theorem dX10_testsOf_124 : decode cX10_testsOf 124 = .ok (.if_icmp .eq 7, 3) := by decide +kernel
theorem dX10_testsOf_127 : decode cX10_testsOf 127 = .ok (.iconst 0, 1) := by decide +kernel
theorem dX10_testsOf_128 : decode cX10_testsOf 128 = .ok (.goto 44, 3) := by decide +kernel
theorem dX10_testsOf_131 : decode cX10_testsOf 131 = .ok (.aload_n 0, 1) := by decide +kernel
theorem dX10_testsOf_132 : decode cX10_testsOf 132 = .ok (.getfield 43, 3) := by decide +kernel
theorem dX10_testsOf_135 : decode cX10_testsOf 135 = .ok (.iload 4, 2) := by decide +kernel
theorem dX10_testsOf_137 : decode cX10_testsOf 137 = .ok (.iaload, 1) := by decide +kernel
theorem dX10_testsOf_138 : decode cX10_testsOf 138 = .ok (.iload 9, 2) := by decide +kernel
theorem dX10_testsOf_140 : decode cX10_testsOf 140 = .ok (.if_icmp .eq 30, 3) := by decide +kernel
theorem dX10_testsOf_143 : decode cX10_testsOf 143 = .ok (.aload_n 0, 1) := by decide +kernel
theorem dX10_testsOf_144 : decode cX10_testsOf 144 = .ok (.getfield 46, 3) := by decide +kernel
theorem dX10_testsOf_147 : decode cX10_testsOf 147 = .ok (.iload 8, 2) := by decide +kernel
theorem dX10_testsOf_149 : decode cX10_testsOf 149 = .ok (.iaload, 1) := by decide +kernel
theorem dX10_testsOf_150 : decode cX10_testsOf 150 = .ok (.iload 9, 2) := by decide +kernel
theorem dX10_testsOf_152 : decode cX10_testsOf 152 = .ok (.if_icmp .eq 18, 3) := by decide +kernel
theorem dX10_testsOf_155 : decode cX10_testsOf 155 = .ok (.iload 5, 2) := by decide +kernel
theorem dX10_testsOf_157 : decode cX10_testsOf 157 = .ok (.iconst 1, 1) := by decide +kernel
theorem dX10_testsOf_158 : decode cX10_testsOf 158 = .ok (.if_icmp .ge 8, 3) := by decide +kernel
theorem dX10_testsOf_161 : decode cX10_testsOf 161 = .ok (.iload 5, 2) := by decide +kernel
theorem dX10_testsOf_163 : decode cX10_testsOf 163 = .ok (.goto 9, 3) := by decide +kernel
theorem dX10_testsOf_166 : decode cX10_testsOf 166 = .ok (.iconst 1, 1) := by decide +kernel
theorem dX10_testsOf_167 : decode cX10_testsOf 167 = .ok (.goto 5, 3) := by decide +kernel
theorem dX10_testsOf_170 : decode cX10_testsOf 170 = .ok (.iload 5, 2) := by decide +kernel
theorem dX10_testsOf_172 : decode cX10_testsOf 172 = .ok (.istore 5, 2) := by decide +kernel
theorem dX10_testsOf_174 : decode cX10_testsOf 174 = .ok (.iload_n 3, 1) := by decide +kernel
theorem dX10_testsOf_175 : decode cX10_testsOf 175 = .ok (.iload 6, 2) := by decide +kernel
theorem dX10_testsOf_177 : decode cX10_testsOf 177 = .ok (.invokestatic 134, 3) := by decide +kernel
theorem dX10_testsOf_180 : decode cX10_testsOf 180 = .ok (.ifCond .eq 10, 3) := by decide +kernel
theorem dX10_testsOf_183 : decode cX10_testsOf 183 = .ok (.iconst 4, 1) := by decide +kernel
theorem dX10_testsOf_184 : decode cX10_testsOf 184 = .ok (.iload 6, 2) := by decide +kernel
theorem dX10_testsOf_186 : decode cX10_testsOf 186 = .ok (.iadd, 1) := by decide +kernel
theorem dX10_testsOf_187 : decode cX10_testsOf 187 = .ok (.goto 5, 3) := by decide +kernel
theorem dX10_testsOf_190 : decode cX10_testsOf 190 = .ok (.iload 4, 2) := by decide +kernel
theorem dX10_testsOf_192 : decode cX10_testsOf 192 = .ok (.istore 4, 2) := by decide +kernel
theorem dX10_testsOf_194 : decode cX10_testsOf 194 = .ok (.iinc 6 1, 3) := by decide +kernel
theorem dX10_testsOf_197 : decode cX10_testsOf 197 = .ok (.goto (-171), 3) := by decide +kernel
theorem dX10_testsOf_200 : decode cX10_testsOf 200 = .ok (.iload 5, 2) := by decide +kernel
theorem dX10_testsOf_202 : decode cX10_testsOf 202 = .ok (.ireturn, 1) := by decide +kernel
set_option maxRecDepth 20000 in
theorem ggX10_tests_X10_isPath : GoodIn wsX10_tests wsX10_isPath := goodIn_r _ [7, 8, 9, 10, 6, 11, 45, 46, 47, 48, 49, 50, 51, 52, 53, 54, 55, 56, 57, 58, 59, 60, 61, 62, 63, 64, 65, 66, 67, 68, 69, 70, 71, 72, 73, 74, 75] (by decide +kernel) (by decide +kernel)
set_option maxRecDepth 20000 in
theorem gX10_tests_X10_isPath : GoodIn wsX10_tests (wsV RX10 147 RX10 yX10_isPath wsX10_isPath) := goodIn_app (goodIn_of _ (by decide +kernel)) ggX10_tests_X10_isPath
set_option maxRecDepth 20000 in
theorem ggX10_tests_X10_isPair : GoodIn wsX10_tests wsX10_isPair := goodIn_r _ [15, 16, 17, 9, 10, 6, 11, 45, 46, 47, 48, 49, 50, 51, 52, 53, 54, 55, 56, 57, 58, 59, 60, 61, 62, 63, 64, 65, 66, 67, 68, 69, 70, 71, 72, 73, 74, 75] (by decide +kernel) (by decide +kernel)
set_option maxRecDepth 20000 in
theorem gX10_tests_X10_isPair : GoodIn wsX10_tests (wsV RX10 170 RX10 yX10_isPair wsX10_isPair) := goodIn_app (goodIn_of _ (by decide +kernel)) ggX10_tests_X10_isPair
set_option maxRecDepth 20000 in
theorem ggX10_tests_X10_findPair : GoodIn wsX10_tests wsX10_findPair := goodIn_r _ [21, 17, 22, 23, 24, 25, 26, 27, 28, 29, 30, 6, 31, 32, 33, 34, 35, 36, 37, 45, 46, 47, 48, 49, 50, 51, 52, 53, 54, 55, 56, 57, 58, 59, 60, 61, 62, 63, 64, 65, 66, 67, 68, 69, 70, 71, 72, 73, 74, 75] (by decide +kernel) (by decide +kernel)
set_option maxRecDepth 20000 in
theorem gX10_tests_X10_findPair : GoodIn wsX10_tests (wsV RX10 173 RX10 yX10_findPair wsX10_findPair) := goodIn_app (goodIn_of _ (by decide +kernel)) ggX10_tests_X10_findPair
set_option maxRecDepth 20000 in
theorem ggX10_tests_X10_testsOf : GoodIn wsX10_tests wsX10_testsOf := goodIn_r _ [41, 22, 23, 25, 26, 28, 27, 24, 42, 43, 6, 44, 45, 46, 47, 48, 49, 50, 51, 52, 53, 54, 55, 56, 57, 58, 59, 60, 61, 62, 63, 64, 65, 66, 67, 68, 69, 70, 71, 72, 73, 74, 75] (by decide +kernel) (by decide +kernel)
set_option maxRecDepth 20000 in
theorem gX10_tests_X10_testsOf : GoodIn wsX10_tests (wsV RX10 177 RX10 yX10_testsOf wsX10_testsOf) := goodIn_app (goodIn_of _ (by decide +kernel)) ggX10_tests_X10_testsOf
theorem dX10_tests_0 : decode cX10_tests 0 = .ok (.aload_n 0, 1) := by decide +kernel
theorem dX10_tests_1 : decode cX10_tests 1 = .ok (.iload_n 1, 1) := by decide +kernel
theorem dX10_tests_2 : decode cX10_tests 2 = .ok (.invokevirtual 147, 3) := by decide +kernel
theorem dX10_tests_5 : decode cX10_tests 5 = .ok (.ifCond .ne 5, 3) := by decide +kernel
theorem dX10_tests_8 : decode cX10_tests 8 = .ok (.iconst (-1), 1) := by decide +kernel
theorem dX10_tests_9 : decode cX10_tests 9 = .ok (.ireturn, 1) := by decide +kernel
theorem dX10_tests_10 : decode cX10_tests 10 = .ok (.aload_n 0, 1) := by decide +kernel
theorem dX10_tests_11 : decode cX10_tests 11 = .ok (.iload_n 2, 1) := by decide +kernel
theorem dX10_tests_12 : decode cX10_tests 12 = .ok (.invokevirtual 170, 3) := by decide +kernel
theorem dX10_tests_15 : decode cX10_tests 15 = .ok (.ifCond .ne 6, 3) := by decide +kernel
theorem dX10_tests_18 : decode cX10_tests 18 = .ok (.bipush (-2), 2) := by decide +kernel
theorem dX10_tests_20 : decode cX10_tests 20 = .ok (.ireturn, 1) := by decide +kernel
theorem dX10_tests_21 : decode cX10_tests 21 = .ok (.aload_n 0, 1) := by decide +kernel
theorem dX10_tests_22 : decode cX10_tests 22 = .ok (.iconst 0, 1) := by decide +kernel
theorem dX10_tests_23 : decode cX10_tests 23 = .ok (.iload_n 2, 1) := by decide +kernel
theorem dX10_tests_24 : decode cX10_tests 24 = .ok (.invokevirtual 173, 3) := by decide +kernel
theorem dX10_tests_27 : decode cX10_tests 27 = .ok (.aload_n 0, 1) := by decide +kernel
theorem dX10_tests_28 : decode cX10_tests 28 = .ok (.iconst 0, 1) := by decide +kernel
theorem dX10_tests_29 : decode cX10_tests 29 = .ok (.aload_n 0, 1) := by decide +kernel
theorem dX10_tests_30 : decode cX10_tests 30 = .ok (.getfield 34, 3) := by decide +kernel
theorem dX10_tests_33 : decode cX10_tests 33 = .ok (.iload_n 1, 1) := by decide +kernel
theorem dX10_tests_34 : decode cX10_tests 34 = .ok (.iaload, 1) := by decide +kernel
theorem dX10_tests_35 : decode cX10_tests 35 = .ok (.aload_n 0, 1) := by decide +kernel
theorem dX10_tests_36 : decode cX10_tests 36 = .ok (.getfield 37, 3) := by decide +kernel
theorem dX10_tests_39 : decode cX10_tests 39 = .ok (.iload_n 1, 1) := by decide +kernel
theorem dX10_tests_40 : decode cX10_tests 40 = .ok (.iaload, 1) := by decide +kernel
theorem dX10_tests_41 : decode cX10_tests 41 = .ok (.invokevirtual 177, 3) := by decide +kernel
theorem dX10_tests_44 : decode cX10_tests 44 = .ok (.ireturn, 1) := by decide +kernel
theorem dX10_isLaunched_0 : decode cX10_isLaunched 0 = .ok (.iconst 1, 1) := by decide +kernel
theorem dX10_isLaunched_1 : decode cX10_isLaunched 1 = .ok (.istore_n 2, 1) := by decide +kernel
theorem dX10_isLaunched_2 : decode cX10_isLaunched 2 = .ok (.iconst 0, 1) := by decide +kernel
theorem dX10_isLaunched_3 : decode cX10_isLaunched 3 = .ok (.istore_n 3, 1) := by decide +kernel
theorem dX10_isLaunched_4 : decode cX10_isLaunched 4 = .ok (.iload_n 3, 1) := by decide +kernel
theorem dX10_isLaunched_5 : decode cX10_isLaunched 5 = .ok (.aload_n 0, 1) := by decide +kernel
theorem dX10_isLaunched_6 : decode cX10_isLaunched 6 = .ok (.getfield 112, 3) := by decide +kernel
theorem dX10_isLaunched_9 : decode cX10_isLaunched 9 = .ok (.if_icmp .ge 70, 3) := by decide +kernel
theorem dX10_isLaunched_12 : decode cX10_isLaunched 12 = .ok (.iload_n 2, 1) := by decide +kernel
theorem dX10_isLaunched_13 : decode cX10_isLaunched 13 = .ok (.ifCond .eq 58, 3) := by decide +kernel
theorem dX10_isLaunched_16 : decode cX10_isLaunched 16 = .ok (.iload_n 1, 1) := by decide +kernel
theorem dX10_isLaunched_17 : decode cX10_isLaunched 17 = .ok (.iconst 1, 1) := by decide +kernel
theorem dX10_isLaunched_18 : decode cX10_isLaunched 18 = .ok (.if_icmp .ne 24, 3) := by decide +kernel
theorem dX10_isLaunched_21 : decode cX10_isLaunched 21 = .ok (.iload_n 3, 1) := by decide +kernel
theorem dX10_isLaunched_22 : decode cX10_isLaunched 22 = .ok (.ifCond .eq 20, 3) := by decide +kernel
theorem dX10_isLaunched_25 : decode cX10_isLaunched 25 = .ok (.aload_n 0, 1) := by decide +kernel
theorem dX10_isLaunched_26 : decode cX10_isLaunched 26 = .ok (.getfield 43, 3) := by decide +kernel
theorem dX10_isLaunched_29 : decode cX10_isLaunched 29 = .ok (.iload_n 3, 1) := by decide +kernel
theorem dX10_isLaunched_30 : decode cX10_isLaunched 30 = .ok (.iaload, 1) := by decide +kernel
theorem dX10_isLaunched_31 : decode cX10_isLaunched 31 = .ok (.aload_n 0, 1) := by decide +kernel
theorem dX10_isLaunched_32 : decode cX10_isLaunched 32 = .ok (.getfield 40, 3) := by decide +kernel
theorem dX10_isLaunched_35 : decode cX10_isLaunched 35 = .ok (.iload_n 3, 1) := by decide +kernel
theorem dX10_isLaunched_36 : decode cX10_isLaunched 36 = .ok (.iconst 1, 1) := by decide +kernel
theorem dX10_isLaunched_37 : decode cX10_isLaunched 37 = .ok (.isub, 1) := by decide +kernel
theorem dX10_isLaunched_38 : decode cX10_isLaunched 38 = .ok (.iaload, 1) := by decide +kernel
theorem dX10_isLaunched_39 : decode cX10_isLaunched 39 = .ok (.if_icmp .ne 32, 3) := by decide +kernel
theorem dX10_isLaunched_42 : decode cX10_isLaunched 42 = .ok (.iload_n 1, 1) := by decide +kernel
theorem dX10_isLaunched_43 : decode cX10_isLaunched 43 = .ok (.iconst 2, 1) := by decide +kernel
theorem dX10_isLaunched_44 : decode cX10_isLaunched 44 = .ok (.if_icmp .ne 23, 3) := by decide +kernel
theorem dX10_isLaunched_47 : decode cX10_isLaunched 47 = .ok (.aload_n 0, 1) := by decide +kernel
theorem dX10_isLaunched_48 : decode cX10_isLaunched 48 = .ok (.getfield 43, 3) := by decide +kernel
theorem dX10_isLaunched_51 : decode cX10_isLaunched 51 = .ok (.iload_n 3, 1) := by decide +kernel
theorem dX10_isLaunched_52 : decode cX10_isLaunched 52 = .ok (.iaload, 1) := by decide +kernel
theorem dX10_isLaunched_53 : decode cX10_isLaunched 53 = .ok (.aload_n 0, 1) := by decide +kernel
theorem dX10_isLaunched_54 : decode cX10_isLaunched 54 = .ok (.getfield 40, 3) := by decide +kernel
theorem dX10_isLaunched_57 : decode cX10_isLaunched 57 = .ok (.aload_n 0, 1) := by decide +kernel
theorem dX10_isLaunched_58 : decode cX10_isLaunched 58 = .ok (.getfield 19, 3) := by decide +kernel
theorem dX10_isLaunched_61 : decode cX10_isLaunched 61 = .ok (.iload_n 3, 1) := by decide +kernel
theorem dX10_isLaunched_62 : decode cX10_isLaunched 62 = .ok (.iaload, 1) := by decide +kernel
theorem dX10_isLaunched_63 : decode cX10_isLaunched 63 = .ok (.iaload, 1) := by decide +kernel
theorem dX10_isLaunched_64 : decode cX10_isLaunched 64 = .ok (.if_icmp .ne 7, 3) := by decide +kernel
theorem dX10_isLaunched_67 : decode cX10_isLaunched 67 = .ok (.iconst 1, 1) := by decide +kernel
theorem dX10_isLaunched_68 : decode cX10_isLaunched 68 = .ok (.goto 4, 3) := by decide +kernel
theorem dX10_isLaunched_71 : decode cX10_isLaunched 71 = .ok (.iconst 0, 1) := by decide +kernel
theorem dX10_isLaunched_72 : decode cX10_isLaunched 72 = .ok (.istore_n 2, 1) := by decide +kernel
theorem dX10_isLaunched_73 : decode cX10_isLaunched 73 = .ok (.iinc 3 1, 3) := by decide +kernel
theorem dX10_isLaunched_76 : decode cX10_isLaunched 76 = .ok (.goto (-72), 3) := by decide +kernel
theorem dX10_isLaunched_79 : decode cX10_isLaunched 79 = .ok (.iload_n 2, 1) := by decide +kernel
theorem dX10_isLaunched_80 : decode cX10_isLaunched 80 = .ok (.ireturn, 1) := by decide +kernel
set_option maxRecDepth 20000 in
theorem ggX10_bestOn_X10_isPair : GoodIn wsX10_bestOn wsX10_isPair := goodIn_r _ [5, 6, 7, 8, 9, 4, 10, 43, 44, 45, 46, 47, 48, 49, 50, 51, 52, 53, 54, 55, 56, 57, 58, 59, 60, 61, 62, 63, 64, 65, 66, 67, 68, 69, 70, 71, 72, 73] (by decide +kernel) (by decide +kernel)
set_option maxRecDepth 20000 in
theorem gX10_bestOn_X10_isPair : GoodIn wsX10_bestOn (wsV RX10 170 RX10 yX10_isPair wsX10_isPair) := goodIn_app (goodIn_of _ (by decide +kernel)) ggX10_bestOn_X10_isPair
set_option maxRecDepth 20000 in
theorem ggX10_bestOn_X10_has : GoodIn wsX10_bestOn wsX10_has := goodIn_r _ [13] (by decide +kernel) (by decide +kernel)
set_option maxRecDepth 20000 in
theorem gX10_bestOn_X10_has : GoodIn wsX10_bestOn (va_wsS RX10 134 yX10_has wsX10_has) := goodIn_app (goodIn_of _ (by decide +kernel)) ggX10_bestOn_X10_has
set_option maxRecDepth 20000 in
theorem ggX10_bestOn_X10_findPair : GoodIn wsX10_bestOn wsX10_findPair := goodIn_r _ [17, 7, 18, 19, 20, 21, 22, 23, 24, 25, 26, 4, 27, 28, 29, 30, 31, 32, 33, 43, 44, 45, 46, 47, 48, 49, 50, 51, 52, 53, 54, 55, 56, 57, 58, 59, 60, 61, 62, 63, 64, 65, 66, 67, 68, 69, 70, 71, 72, 73] (by decide +kernel) (by decide +kernel)
set_option maxRecDepth 20000 in
theorem gX10_bestOn_X10_findPair : GoodIn wsX10_bestOn (wsV RX10 173 RX10 yX10_findPair wsX10_findPair) := goodIn_app (goodIn_of _ (by decide +kernel)) ggX10_bestOn_X10_findPair
set_option maxRecDepth 20000 in
theorem ggX10_bestOn_X10_isLaunched : GoodIn wsX10_bestOn wsX10_isLaunched := goodIn_r _ [37, 7, 19, 18, 38, 43, 44, 45, 46, 47, 48, 49, 50, 51, 52, 53, 54, 55, 56, 57, 58, 59, 60, 61, 62, 63, 64, 65, 66, 67, 68, 69, 70, 71, 72, 73] (by decide +kernel) (by decide +kernel)
set_option maxRecDepth 20000 in
theorem gX10_bestOn_X10_isLaunched : GoodIn wsX10_bestOn (wsV RX10 180 RX10 yX10_isLaunched wsX10_isLaunched) := goodIn_app (goodIn_of _ (by decide +kernel)) ggX10_bestOn_X10_isLaunched
set_option maxRecDepth 20000 in
theorem ggX10_bestOn_X10_testsOf : GoodIn wsX10_bestOn wsX10_testsOf := goodIn_r _ [42, 18, 19, 21, 22, 24, 23, 20, 11, 12, 4, 13, 43, 44, 45, 46, 47, 48, 49, 50, 51, 52, 53, 54, 55, 56, 57, 58, 59, 60, 61, 62, 63, 64, 65, 66, 67, 68, 69, 70, 71, 72, 73] (by decide +kernel) (by decide +kernel)
set_option maxRecDepth 20000 in
theorem gX10_bestOn_X10_testsOf : GoodIn wsX10_bestOn (wsV RX10 177 RX10 yX10_testsOf wsX10_testsOf) := goodIn_app (goodIn_of _ (by decide +kernel)) ggX10_bestOn_X10_testsOf
theorem dX10_bestOn_0 : decode cX10_bestOn 0 = .ok (.iconst 0, 1) := by decide +kernel
theorem dX10_bestOn_1 : decode cX10_bestOn 1 = .ok (.istore 7, 2) := by decide +kernel
theorem dX10_bestOn_3 : decode cX10_bestOn 3 = .ok (.bipush (-9), 2) := by decide +kernel
theorem dX10_bestOn_5 : decode cX10_bestOn 5 = .ok (.istore 8, 2) := by decide +kernel
theorem dX10_bestOn_7 : decode cX10_bestOn 7 = .ok (.iconst 0, 1) := by decide +kernel
theorem dX10_bestOn_8 : decode cX10_bestOn 8 = .ok (.istore 9, 2) := by decide +kernel
theorem dX10_bestOn_10 : decode cX10_bestOn 10 = .ok (.iload 9, 2) := by decide +kernel
theorem dX10_bestOn_12 : decode cX10_bestOn 12 = .ok (.sipush 256, 3) := by decide +kernel
theorem dX10_bestOn_15 : decode cX10_bestOn 15 = .ok (.if_icmp .ge 106, 3) := by decide +kernel
theorem dX10_bestOn_18 : decode cX10_bestOn 18 = .ok (.aload_n 0, 1) := by decide +kernel
theorem dX10_bestOn_19 : decode cX10_bestOn 19 = .ok (.iload 9, 2) := by decide +kernel
theorem dX10_bestOn_21 : decode cX10_bestOn 21 = .ok (.invokevirtual 170, 3) := by decide +kernel
theorem dX10_bestOn_24 : decode cX10_bestOn 24 = .ok (.ifCond .eq 91, 3) := by decide +kernel
theorem dX10_bestOn_27 : decode cX10_bestOn 27 = .ok (.iload 9, 2) := by decide +kernel
theorem dX10_bestOn_29 : decode cX10_bestOn 29 = .ok (.iload_n 2, 1) := by decide +kernel
theorem dX10_bestOn_30 : decode cX10_bestOn 30 = .ok (.invokestatic 134, 3) := by decide +kernel
theorem dX10_bestOn_33 : decode cX10_bestOn 33 = .ok (.iload 4, 2) := by decide +kernel
theorem dX10_bestOn_35 : decode cX10_bestOn 35 = .ok (.iconst 1, 1) := by decide +kernel
theorem dX10_bestOn_36 : decode cX10_bestOn 36 = .ok (.if_icmp .ne 7, 3) := by decide +kernel
theorem dX10_bestOn_39 : decode cX10_bestOn 39 = .ok (.iconst 1, 1) := by decide +kernel
theorem dX10_bestOn_40 : decode cX10_bestOn 40 = .ok (.goto 4, 3) := by decide +kernel
theorem dX10_bestOn_43 : decode cX10_bestOn 43 = .ok (.iconst 0, 1) := by decide +kernel
theorem dX10_bestOn_44 : decode cX10_bestOn 44 = .ok (.if_icmp .ne 71, 3) := by decide +kernel
theorem dX10_bestOn_47 : decode cX10_bestOn 47 = .ok (.aload_n 0, 1) := by decide +kernel
theorem dX10_bestOn_48 : decode cX10_bestOn 48 = .ok (.iload_n 1, 1) := by decide +kernel
theorem dX10_bestOn_49 : decode cX10_bestOn 49 = .ok (.iload 9, 2) := by decide +kernel
theorem dX10_bestOn_51 : decode cX10_bestOn 51 = .ok (.invokevirtual 173, 3) := by decide +kernel
theorem dX10_bestOn_54 : decode cX10_bestOn 54 = .ok (.aload_n 0, 1) := by decide +kernel
theorem dX10_bestOn_55 : decode cX10_bestOn 55 = .ok (.iload 5, 2) := by decide +kernel
theorem dX10_bestOn_57 : decode cX10_bestOn 57 = .ok (.invokevirtual 180, 3) := by decide +kernel
theorem dX10_bestOn_60 : decode cX10_bestOn 60 = .ok (.ifCond .eq 18, 3) := by decide +kernel
theorem dX10_bestOn_63 : decode cX10_bestOn 63 = .ok (.aload_n 0, 1) := by decide +kernel
theorem dX10_bestOn_64 : decode cX10_bestOn 64 = .ok (.iload_n 1, 1) := by decide +kernel
theorem dX10_bestOn_65 : decode cX10_bestOn 65 = .ok (.iload_n 2, 1) := by decide +kernel
theorem dX10_bestOn_66 : decode cX10_bestOn 66 = .ok (.iload_n 3, 1) := by decide +kernel
theorem dX10_bestOn_67 : decode cX10_bestOn 67 = .ok (.invokevirtual 177, 3) := by decide +kernel
theorem dX10_bestOn_70 : decode cX10_bestOn 70 = .ok (.iconst 2, 1) := by decide +kernel
theorem dX10_bestOn_71 : decode cX10_bestOn 71 = .ok (.if_icmp .ne 7, 3) := by decide +kernel
theorem dX10_bestOn_74 : decode cX10_bestOn 74 = .ok (.iconst 1, 1) := by decide +kernel
theorem dX10_bestOn_75 : decode cX10_bestOn 75 = .ok (.goto 4, 3) := by decide +kernel
theorem dX10_bestOn_78 : decode cX10_bestOn 78 = .ok (.iconst 0, 1) := by decide +kernel
theorem dX10_bestOn_79 : decode cX10_bestOn 79 = .ok (.istore 10, 2) := by decide +kernel
theorem dX10_bestOn_81 : decode cX10_bestOn 81 = .ok (.iload 10, 2) := by decide +kernel
theorem dX10_bestOn_83 : decode cX10_bestOn 83 = .ok (.ifCond .eq 13, 3) := by decide +kernel
theorem dX10_bestOn_86 : decode cX10_bestOn 86 = .ok (.iload 7, 2) := by decide +kernel
theorem dX10_bestOn_88 : decode cX10_bestOn 88 = .ok (.ifCond .ne 8, 3) := by decide +kernel
theorem dX10_bestOn_91 : decode cX10_bestOn 91 = .ok (.iload 9, 2) := by decide +kernel
theorem dX10_bestOn_93 : decode cX10_bestOn 93 = .ok (.goto 5, 3) := by decide +kernel
theorem dX10_bestOn_96 : decode cX10_bestOn 96 = .ok (.iload 8, 2) := by decide +kernel
theorem dX10_bestOn_98 : decode cX10_bestOn 98 = .ok (.istore 8, 2) := by decide +kernel
theorem dX10_bestOn_100 : decode cX10_bestOn 100 = .ok (.iload 7, 2) := by decide +kernel
theorem dX10_bestOn_102 : decode cX10_bestOn 102 = .ok (.iload 10, 2) := by decide +kernel
theorem dX10_bestOn_104 : decode cX10_bestOn 104 = .ok (.ifCond .eq 7, 3) := by decide +kernel
theorem dX10_bestOn_107 : decode cX10_bestOn 107 = .ok (.iconst 1, 1) := by decide +kernel
theorem dX10_bestOn_108 : decode cX10_bestOn 108 = .ok (.goto 4, 3) := by decide +kernel
theorem dX10_bestOn_111 : decode cX10_bestOn 111 = .ok (.iconst 0, 1) := by decide +kernel
theorem dX10_bestOn_112 : decode cX10_bestOn 112 = .ok (.iadd, 1) := by decide +kernel
theorem dX10_bestOn_113 : decode cX10_bestOn 113 = .ok (.istore 7, 2) := by decide +kernel
theorem dX10_bestOn_115 : decode cX10_bestOn 115 = .ok (.iinc 9 1, 3) := by decide +kernel
theorem dX10_bestOn_118 : decode cX10_bestOn 118 = .ok (.goto (-108), 3) := by decide +kernel
theorem dX10_bestOn_121 : decode cX10_bestOn 121 = .ok (.iload 6, 2) := by decide +kernel
theorem dX10_bestOn_123 : decode cX10_bestOn 123 = .ok (.ifCond .ne 8, 3) := by decide +kernel
theorem dX10_bestOn_126 : decode cX10_bestOn 126 = .ok (.iload 8, 2) := by decide +kernel
theorem dX10_bestOn_128 : decode cX10_bestOn 128 = .ok (.goto 5, 3) := by decide +kernel
theorem dX10_bestOn_131 : decode cX10_bestOn 131 = .ok (.iload 7, 2) := by decide +kernel
theorem dX10_bestOn_133 : decode cX10_bestOn 133 = .ok (.ireturn, 1) := by decide +kernel
set_option maxRecDepth 20000 in
theorem ggX10_best_X10_isPath : GoodIn wsX10_best wsX10_isPath := goodIn_r _ [8, 9, 10, 11, 7, 12, 55, 56, 57, 58, 59, 60, 61, 62, 63, 64, 65, 66, 67, 68, 69, 70, 71, 72, 73, 74, 75, 76, 77, 78, 79, 80, 81, 82, 83, 84, 85] (by decide +kernel) (by decide +kernel)
set_option maxRecDepth 20000 in
theorem gX10_best_X10_isPath : GoodIn wsX10_best (wsV RX10 147 RX10 yX10_isPath wsX10_isPath) := goodIn_app (goodIn_of _ (by decide +kernel)) ggX10_best_X10_isPath
set_option maxRecDepth 20000 in
theorem ggX10_best_X10_in : GoodIn wsX10_best wsX10_in := goodIn_r _ [12] (by decide +kernel) (by decide +kernel)
set_option maxRecDepth 20000 in
theorem gX10_best_X10_in : GoodIn wsX10_best (va_wsS RX10 76 yX10_in wsX10_in) := goodIn_app (goodIn_of _ (by decide +kernel)) ggX10_best_X10_in
set_option maxRecDepth 20000 in
theorem ggX10_best_X10_bestOn : GoodIn wsX10_best wsX10_bestOn := goodIn_r _ [16, 17, 18, 19, 7, 20, 21, 22, 10, 11, 12, 23, 24, 25, 26, 27, 28, 29, 30, 31, 32, 33, 34, 35, 36, 37, 38, 39, 40, 41, 42, 43, 44, 45, 46, 47, 48, 49, 50, 51, 52, 53, 54, 55, 56, 57, 58, 59, 60, 61, 62, 63, 64, 65, 66, 67, 68, 69, 70, 71, 72, 73, 74, 75, 76, 77, 78, 79, 80, 81, 82, 83, 84, 85] (by decide +kernel) (by decide +kernel)
set_option maxRecDepth 20000 in
theorem gX10_best_X10_bestOn : GoodIn wsX10_best (wsV RX10 185 RX10 yX10_bestOn wsX10_bestOn) := goodIn_app (goodIn_of _ (by decide +kernel)) ggX10_best_X10_bestOn
theorem dX10_best_0 : decode cX10_best 0 = .ok (.aload_n 0, 1) := by decide +kernel
theorem dX10_best_1 : decode cX10_best 1 = .ok (.iload_n 1, 1) := by decide +kernel
theorem dX10_best_2 : decode cX10_best 2 = .ok (.invokevirtual 147, 3) := by decide +kernel
theorem dX10_best_5 : decode cX10_best 5 = .ok (.ifCond .ne 5, 3) := by decide +kernel
theorem dX10_best_8 : decode cX10_best 8 = .ok (.iconst (-1), 1) := by decide +kernel
theorem dX10_best_9 : decode cX10_best 9 = .ok (.ireturn, 1) := by decide +kernel
theorem dX10_best_10 : decode cX10_best 10 = .ok (.iload_n 2, 1) := by decide +kernel
theorem dX10_best_11 : decode cX10_best 11 = .ok (.i2l, 1) := by decide +kernel
theorem dX10_best_12 : decode cX10_best 12 = .ok (.lconst 0, 1) := by decide +kernel
theorem dX10_best_13 : decode cX10_best 13 = .ok (.lconst 1, 1) := by decide +kernel
theorem dX10_best_14 : decode cX10_best 14 = .ok (.invokestatic 76, 3) := by decide +kernel
theorem dX10_best_17 : decode cX10_best 17 = .ok (.ifCond .eq 26, 3) := by decide +kernel
theorem dX10_best_20 : decode cX10_best 20 = .ok (.iload_n 3, 1) := by decide +kernel
theorem dX10_best_21 : decode cX10_best 21 = .ok (.i2l, 1) := by decide +kernel
theorem dX10_best_22 : decode cX10_best 22 = .ok (.lconst 0, 1) := by decide +kernel
theorem dX10_best_23 : decode cX10_best 23 = .ok (.ldc2_w 183, 3) := by decide +kernel
theorem dX10_best_26 : decode cX10_best 26 = .ok (.invokestatic 76, 3) := by decide +kernel
theorem dX10_best_29 : decode cX10_best 29 = .ok (.ifCond .eq 14, 3) := by decide +kernel
theorem dX10_best_32 : decode cX10_best 32 = .ok (.iload 4, 2) := by decide +kernel
theorem dX10_best_34 : decode cX10_best 34 = .ok (.i2l, 1) := by decide +kernel
theorem dX10_best_35 : decode cX10_best 35 = .ok (.lconst 0, 1) := by decide +kernel
theorem dX10_best_36 : decode cX10_best 36 = .ok (.lconst 1, 1) := by decide +kernel
theorem dX10_best_37 : decode cX10_best 37 = .ok (.invokestatic 76, 3) := by decide +kernel
theorem dX10_best_40 : decode cX10_best 40 = .ok (.ifCond .ne 6, 3) := by decide +kernel
theorem dX10_best_43 : decode cX10_best 43 = .ok (.bipush (-2), 2) := by decide +kernel
theorem dX10_best_45 : decode cX10_best 45 = .ok (.ireturn, 1) := by decide +kernel
theorem dX10_best_46 : decode cX10_best 46 = .ok (.aload_n 0, 1) := by decide +kernel
theorem dX10_best_47 : decode cX10_best 47 = .ok (.iconst 0, 1) := by decide +kernel
theorem dX10_best_48 : decode cX10_best 48 = .ok (.aload_n 0, 1) := by decide +kernel
theorem dX10_best_49 : decode cX10_best 49 = .ok (.getfield 34, 3) := by decide +kernel
theorem dX10_best_52 : decode cX10_best 52 = .ok (.iload_n 1, 1) := by decide +kernel
theorem dX10_best_53 : decode cX10_best 53 = .ok (.iaload, 1) := by decide +kernel
theorem dX10_best_54 : decode cX10_best 54 = .ok (.aload_n 0, 1) := by decide +kernel
theorem dX10_best_55 : decode cX10_best 55 = .ok (.getfield 37, 3) := by decide +kernel
theorem dX10_best_58 : decode cX10_best 58 = .ok (.iload_n 1, 1) := by decide +kernel
theorem dX10_best_59 : decode cX10_best 59 = .ok (.iaload, 1) := by decide +kernel
theorem dX10_best_60 : decode cX10_best 60 = .ok (.iload_n 2, 1) := by decide +kernel
theorem dX10_best_61 : decode cX10_best 61 = .ok (.iload_n 3, 1) := by decide +kernel
theorem dX10_best_62 : decode cX10_best 62 = .ok (.iload 4, 2) := by decide +kernel
theorem dX10_best_64 : decode cX10_best 64 = .ok (.invokevirtual 185, 3) := by decide +kernel
theorem dX10_best_67 : decode cX10_best 67 = .ok (.ireturn, 1) := by decide +kernel
set_option maxRecDepth 20000 in
theorem ggX10_begins_X10_has : GoodIn wsX10_begins wsX10_has := goodIn_r _ [8] (by decide +kernel) (by decide +kernel)
set_option maxRecDepth 20000 in
theorem gX10_begins_X10_has : GoodIn wsX10_begins (va_wsS RX10 134 yX10_has wsX10_has) := goodIn_app (goodIn_of _ (by decide +kernel)) ggX10_begins_X10_has
theorem dX10_begins_0 : decode cX10_begins 0 = .ok (.iconst 0, 1) := by decide +kernel
theorem dX10_begins_1 : decode cX10_begins 1 = .ok (.istore_n 3, 1) := by decide +kernel
theorem dX10_begins_2 : decode cX10_begins 2 = .ok (.iconst 0, 1) := by decide +kernel
theorem dX10_begins_3 : decode cX10_begins 3 = .ok (.istore 4, 2) := by decide +kernel
theorem dX10_begins_5 : decode cX10_begins 5 = .ok (.iload 4, 2) := by decide +kernel
theorem dX10_begins_7 : decode cX10_begins 7 = .ok (.aload_n 0, 1) := by decide +kernel
theorem dX10_begins_8 : decode cX10_begins 8 = .ok (.getfield 115, 3) := by decide +kernel
theorem dX10_begins_11 : decode cX10_begins 11 = .ok (.if_icmp .ge 29, 3) := by decide +kernel
theorem dX10_begins_14 : decode cX10_begins 14 = .ok (.iload_n 2, 1) := by decide +kernel
theorem dX10_begins_15 : decode cX10_begins 15 = .ok (.iload 4, 2) := by decide +kernel
theorem dX10_begins_17 : decode cX10_begins 17 = .ok (.invokestatic 134, 3) := by decide +kernel
theorem dX10_begins_20 : decode cX10_begins 20 = .ok (.ifCond .eq 12, 3) := by decide +kernel
theorem dX10_begins_23 : decode cX10_begins 23 = .ok (.iconst 2, 1) := by decide +kernel
theorem dX10_begins_24 : decode cX10_begins 24 = .ok (.iload 4, 2) := by decide +kernel
theorem dX10_begins_26 : decode cX10_begins 26 = .ok (.ishl, 1) := by decide +kernel
theorem dX10_begins_27 : decode cX10_begins 27 = .ok (.iconst 1, 1) := by decide +kernel
theorem dX10_begins_28 : decode cX10_begins 28 = .ok (.isub, 1) := by decide +kernel
theorem dX10_begins_29 : decode cX10_begins 29 = .ok (.goto 4, 3) := by decide +kernel
theorem dX10_begins_32 : decode cX10_begins 32 = .ok (.iload_n 3, 1) := by decide +kernel
theorem dX10_begins_33 : decode cX10_begins 33 = .ok (.istore_n 3, 1) := by decide +kernel
theorem dX10_begins_34 : decode cX10_begins 34 = .ok (.iinc 4 1, 3) := by decide +kernel
theorem dX10_begins_37 : decode cX10_begins 37 = .ok (.goto (-32), 3) := by decide +kernel
theorem dX10_begins_40 : decode cX10_begins 40 = .ok (.iconst 0, 1) := by decide +kernel
theorem dX10_begins_41 : decode cX10_begins 41 = .ok (.istore 4, 2) := by decide +kernel
theorem dX10_begins_43 : decode cX10_begins 43 = .ok (.iconst 0, 1) := by decide +kernel
theorem dX10_begins_44 : decode cX10_begins 44 = .ok (.istore 5, 2) := by decide +kernel
theorem dX10_begins_46 : decode cX10_begins 46 = .ok (.iload 5, 2) := by decide +kernel
theorem dX10_begins_48 : decode cX10_begins 48 = .ok (.aload_n 0, 1) := by decide +kernel
theorem dX10_begins_49 : decode cX10_begins 49 = .ok (.getfield 124, 3) := by decide +kernel
theorem dX10_begins_52 : decode cX10_begins 52 = .ok (.if_icmp .ge 45, 3) := by decide +kernel
theorem dX10_begins_55 : decode cX10_begins 55 = .ok (.iload 4, 2) := by decide +kernel
theorem dX10_begins_57 : decode cX10_begins 57 = .ok (.ifCond .ne 27, 3) := by decide +kernel
theorem dX10_begins_60 : decode cX10_begins 60 = .ok (.aload_n 0, 1) := by decide +kernel
theorem dX10_begins_61 : decode cX10_begins 61 = .ok (.getfield 34, 3) := by decide +kernel
theorem dX10_begins_64 : decode cX10_begins 64 = .ok (.iload 5, 2) := by decide +kernel
theorem dX10_begins_66 : decode cX10_begins 66 = .ok (.iaload, 1) := by decide +kernel
theorem dX10_begins_67 : decode cX10_begins 67 = .ok (.iload_n 1, 1) := by decide +kernel
theorem dX10_begins_68 : decode cX10_begins 68 = .ok (.if_icmp .ne 20, 3) := by decide +kernel
theorem dX10_begins_71 : decode cX10_begins 71 = .ok (.aload_n 0, 1) := by decide +kernel
theorem dX10_begins_72 : decode cX10_begins 72 = .ok (.getfield 37, 3) := by decide +kernel
theorem dX10_begins_75 : decode cX10_begins 75 = .ok (.iload 5, 2) := by decide +kernel
theorem dX10_begins_77 : decode cX10_begins 77 = .ok (.iaload, 1) := by decide +kernel
theorem dX10_begins_78 : decode cX10_begins 78 = .ok (.iload_n 3, 1) := by decide +kernel
theorem dX10_begins_79 : decode cX10_begins 79 = .ok (.iand, 1) := by decide +kernel
theorem dX10_begins_80 : decode cX10_begins 80 = .ok (.iload_n 2, 1) := by decide +kernel
theorem dX10_begins_81 : decode cX10_begins 81 = .ok (.if_icmp .ne 7, 3) := by decide +kernel
theorem dX10_begins_84 : decode cX10_begins 84 = .ok (.iconst 1, 1) := by decide +kernel
theorem dX10_begins_85 : decode cX10_begins 85 = .ok (.goto 4, 3) := by decide +kernel
theorem dX10_begins_88 : decode cX10_begins 88 = .ok (.iconst 0, 1) := by decide +kernel
theorem dX10_begins_89 : decode cX10_begins 89 = .ok (.istore 4, 2) := by decide +kernel
theorem dX10_begins_91 : decode cX10_begins 91 = .ok (.iinc 5 1, 3) := by decide +kernel
theorem dX10_begins_94 : decode cX10_begins 94 = .ok (.goto (-48), 3) := by decide +kernel
theorem dX10_begins_97 : decode cX10_begins 97 = .ok (.iload 4, 2) := by decide +kernel
theorem dX10_begins_99 : decode cX10_begins 99 = .ok (.ireturn, 1) := by decide +kernel
set_option maxRecDepth 20000 in
theorem ggX10_shorter_X10_has : GoodIn wsX10_shorter wsX10_has := goodIn_r _ [4] (by decide +kernel) (by decide +kernel)
set_option maxRecDepth 20000 in
theorem gX10_shorter_X10_has : GoodIn wsX10_shorter (va_wsS RX10 134 yX10_has wsX10_has) := goodIn_app (goodIn_of _ (by decide +kernel)) ggX10_shorter_X10_has
theorem dX10_shorter_0 : decode cX10_shorter 0 = .ok (.iconst 0, 1) := by decide +kernel
theorem dX10_shorter_1 : decode cX10_shorter 1 = .ok (.istore_n 1, 1) := by decide +kernel
theorem dX10_shorter_2 : decode cX10_shorter 2 = .ok (.iconst 0, 1) := by decide +kernel
theorem dX10_shorter_3 : decode cX10_shorter 3 = .ok (.istore_n 2, 1) := by decide +kernel
theorem dX10_shorter_4 : decode cX10_shorter 4 = .ok (.iload_n 2, 1) := by decide +kernel
theorem dX10_shorter_5 : decode cX10_shorter 5 = .ok (.bipush 8, 2) := by decide +kernel
theorem dX10_shorter_7 : decode cX10_shorter 7 = .ok (.if_icmp .ge 25, 3) := by decide +kernel
theorem dX10_shorter_10 : decode cX10_shorter 10 = .ok (.iload_n 0, 1) := by decide +kernel
theorem dX10_shorter_11 : decode cX10_shorter 11 = .ok (.iload_n 2, 1) := by decide +kernel
theorem dX10_shorter_12 : decode cX10_shorter 12 = .ok (.invokestatic 134, 3) := by decide +kernel
theorem dX10_shorter_15 : decode cX10_shorter 15 = .ok (.ifCond .eq 9, 3) := by decide +kernel
theorem dX10_shorter_18 : decode cX10_shorter 18 = .ok (.iconst 1, 1) := by decide +kernel
theorem dX10_shorter_19 : decode cX10_shorter 19 = .ok (.iload_n 2, 1) := by decide +kernel
theorem dX10_shorter_20 : decode cX10_shorter 20 = .ok (.ishl, 1) := by decide +kernel
theorem dX10_shorter_21 : decode cX10_shorter 21 = .ok (.goto 4, 3) := by decide +kernel
theorem dX10_shorter_24 : decode cX10_shorter 24 = .ok (.iload_n 1, 1) := by decide +kernel
theorem dX10_shorter_25 : decode cX10_shorter 25 = .ok (.istore_n 1, 1) := by decide +kernel
theorem dX10_shorter_26 : decode cX10_shorter 26 = .ok (.iinc 2 1, 3) := by decide +kernel
theorem dX10_shorter_29 : decode cX10_shorter 29 = .ok (.goto (-25), 3) := by decide +kernel
theorem dX10_shorter_32 : decode cX10_shorter 32 = .ok (.iload_n 0, 1) := by decide +kernel
theorem dX10_shorter_33 : decode cX10_shorter 33 = .ok (.iload_n 1, 1) := by decide +kernel
theorem dX10_shorter_34 : decode cX10_shorter 34 = .ok (.iconst (-1), 1) := by decide +kernel
theorem dX10_shorter_35 : decode cX10_shorter 35 = .ok (.ixor, 1) := by decide +kernel
theorem dX10_shorter_36 : decode cX10_shorter 36 = .ok (.iand, 1) := by decide +kernel
theorem dX10_shorter_37 : decode cX10_shorter 37 = .ok (.ireturn, 1) := by decide +kernel
set_option maxRecDepth 20000 in
theorem ggX10_prunedOn_X10_begins : GoodIn wsX10_prunedOn wsX10_begins := goodIn_r _ [7, 2, 8, 9, 10, 11, 12, 6, 13, 57, 58, 59, 60, 61, 62, 63, 64, 65, 66, 67, 68, 69, 70, 71, 72, 73, 74, 75, 76, 77, 78, 79, 80, 81, 82, 83, 84, 85, 86, 87] (by decide +kernel) (by decide +kernel)
set_option maxRecDepth 20000 in
theorem gX10_prunedOn_X10_begins : GoodIn wsX10_prunedOn (wsV RX10 189 RX10 yX10_begins wsX10_begins) := goodIn_app (goodIn_of _ (by decide +kernel)) ggX10_prunedOn_X10_begins
set_option maxRecDepth 20000 in
theorem ggX10_prunedOn_X10_bestOn : GoodIn wsX10_prunedOn wsX10_bestOn := goodIn_r _ [17, 18, 19, 20, 6, 21, 22, 1, 23, 24, 25, 11, 12, 13, 26, 27, 28, 29, 30, 31, 32, 2, 33, 34, 35, 36, 37, 38, 39, 40, 41, 42, 43, 44, 45, 46, 47, 48, 49, 50, 51, 52, 53, 57, 58, 59, 60, 61, 62, 63, 64, 65, 66, 67, 68, 69, 70, 71, 72, 73, 74, 75, 76, 77, 78, 79, 80, 81, 82, 83, 84, 85, 86, 87] (by decide +kernel) (by decide +kernel)
set_option maxRecDepth 20000 in
theorem gX10_prunedOn_X10_bestOn : GoodIn wsX10_prunedOn (wsV RX10 185 RX10 yX10_bestOn wsX10_bestOn) := goodIn_app (goodIn_of _ (by decide +kernel)) ggX10_prunedOn_X10_bestOn
set_option maxRecDepth 20000 in
theorem ggX10_prunedOn_X10_shorter : GoodIn wsX10_prunedOn wsX10_shorter := goodIn_r _ [56, 11, 12, 6, 13] (by decide +kernel) (by decide +kernel)
set_option maxRecDepth 20000 in
theorem gX10_prunedOn_X10_shorter : GoodIn wsX10_prunedOn (va_wsS RX10 192 yX10_shorter wsX10_shorter) := goodIn_app (goodIn_of _ (by decide +kernel)) ggX10_prunedOn_X10_shorter
theorem dX10_prunedOn_0 : decode cX10_prunedOn 0 = .ok (.iconst 0, 1) := by decide +kernel
theorem dX10_prunedOn_1 : decode cX10_prunedOn 1 = .ok (.istore_n 2, 1) := by decide +kernel
theorem dX10_prunedOn_2 : decode cX10_prunedOn 2 = .ok (.iconst 0, 1) := by decide +kernel
theorem dX10_prunedOn_3 : decode cX10_prunedOn 3 = .ok (.istore_n 3, 1) := by decide +kernel
theorem dX10_prunedOn_4 : decode cX10_prunedOn 4 = .ok (.iload_n 3, 1) := by decide +kernel
theorem dX10_prunedOn_5 : decode cX10_prunedOn 5 = .ok (.aload_n 0, 1) := by decide +kernel
theorem dX10_prunedOn_6 : decode cX10_prunedOn 6 = .ok (.getfield 112, 3) := by decide +kernel
theorem dX10_prunedOn_9 : decode cX10_prunedOn 9 = .ok (.if_icmp .ge 107, 3) := by decide +kernel
theorem dX10_prunedOn_12 : decode cX10_prunedOn 12 = .ok (.iconst 1, 1) := by decide +kernel
theorem dX10_prunedOn_13 : decode cX10_prunedOn 13 = .ok (.istore 4, 2) := by decide +kernel
theorem dX10_prunedOn_15 : decode cX10_prunedOn 15 = .ok (.iload 4, 2) := by decide +kernel
theorem dX10_prunedOn_17 : decode cX10_prunedOn 17 = .ok (.iconst 1, 1) := by decide +kernel
theorem dX10_prunedOn_18 : decode cX10_prunedOn 18 = .ok (.aload_n 0, 1) := by decide +kernel
theorem dX10_prunedOn_19 : decode cX10_prunedOn 19 = .ok (.getfield 115, 3) := by decide +kernel
theorem dX10_prunedOn_22 : decode cX10_prunedOn 22 = .ok (.ishl, 1) := by decide +kernel
theorem dX10_prunedOn_23 : decode cX10_prunedOn 23 = .ok (.if_icmp .ge 87, 3) := by decide +kernel
theorem dX10_prunedOn_26 : decode cX10_prunedOn 26 = .ok (.iconst 0, 1) := by decide +kernel
theorem dX10_prunedOn_27 : decode cX10_prunedOn 27 = .ok (.istore 5, 2) := by decide +kernel
theorem dX10_prunedOn_29 : decode cX10_prunedOn 29 = .ok (.iload 5, 2) := by decide +kernel
theorem dX10_prunedOn_31 : decode cX10_prunedOn 31 = .ok (.iconst 2, 1) := by decide +kernel
theorem dX10_prunedOn_32 : decode cX10_prunedOn 32 = .ok (.if_icmp .ge 72, 3) := by decide +kernel
theorem dX10_prunedOn_35 : decode cX10_prunedOn 35 = .ok (.aload_n 0, 1) := by decide +kernel
theorem dX10_prunedOn_36 : decode cX10_prunedOn 36 = .ok (.iload_n 3, 1) := by decide +kernel
theorem dX10_prunedOn_37 : decode cX10_prunedOn 37 = .ok (.iload 4, 2) := by decide +kernel
theorem dX10_prunedOn_39 : decode cX10_prunedOn 39 = .ok (.invokevirtual 189, 3) := by decide +kernel
theorem dX10_prunedOn_42 : decode cX10_prunedOn 42 = .ok (.ifCond .eq 62, 3) := by decide +kernel
theorem dX10_prunedOn_45 : decode cX10_prunedOn 45 = .ok (.aload_n 0, 1) := by decide +kernel
theorem dX10_prunedOn_46 : decode cX10_prunedOn 46 = .ok (.iload_n 1, 1) := by decide +kernel
theorem dX10_prunedOn_47 : decode cX10_prunedOn 47 = .ok (.iload_n 3, 1) := by decide +kernel
theorem dX10_prunedOn_48 : decode cX10_prunedOn 48 = .ok (.iload 4, 2) := by decide +kernel
theorem dX10_prunedOn_50 : decode cX10_prunedOn 50 = .ok (.iload 5, 2) := by decide +kernel
theorem dX10_prunedOn_52 : decode cX10_prunedOn 52 = .ok (.iconst 0, 1) := by decide +kernel
theorem dX10_prunedOn_53 : decode cX10_prunedOn 53 = .ok (.iconst 1, 1) := by decide +kernel
theorem dX10_prunedOn_54 : decode cX10_prunedOn 54 = .ok (.invokevirtual 185, 3) := by decide +kernel
theorem dX10_prunedOn_57 : decode cX10_prunedOn 57 = .ok (.ifCond .ne 7, 3) := by decide +kernel
theorem dX10_prunedOn_60 : decode cX10_prunedOn 60 = .ok (.iconst 1, 1) := by decide +kernel
theorem dX10_prunedOn_61 : decode cX10_prunedOn 61 = .ok (.goto 4, 3) := by decide +kernel
theorem dX10_prunedOn_64 : decode cX10_prunedOn 64 = .ok (.iconst 0, 1) := by decide +kernel
theorem dX10_prunedOn_65 : decode cX10_prunedOn 65 = .ok (.istore 6, 2) := by decide +kernel
theorem dX10_prunedOn_67 : decode cX10_prunedOn 67 = .ok (.iload_n 2, 1) := by decide +kernel
theorem dX10_prunedOn_68 : decode cX10_prunedOn 68 = .ok (.iload 6, 2) := by decide +kernel
theorem dX10_prunedOn_70 : decode cX10_prunedOn 70 = .ok (.ifCond .eq 25, 3) := by decide +kernel
theorem dX10_prunedOn_73 : decode cX10_prunedOn 73 = .ok (.aload_n 0, 1) := by decide +kernel
theorem dX10_prunedOn_74 : decode cX10_prunedOn 74 = .ok (.iload_n 1, 1) := by decide +kernel
theorem dX10_prunedOn_75 : decode cX10_prunedOn 75 = .ok (.iload_n 3, 1) := by decide +kernel
theorem dX10_prunedOn_76 : decode cX10_prunedOn 76 = .ok (.iload 4, 2) := by decide +kernel
theorem dX10_prunedOn_78 : decode cX10_prunedOn 78 = .ok (.invokestatic 192, 3) := by decide +kernel
theorem dX10_prunedOn_81 : decode cX10_prunedOn 81 = .ok (.iload 5, 2) := by decide +kernel
theorem dX10_prunedOn_83 : decode cX10_prunedOn 83 = .ok (.iconst 0, 1) := by decide +kernel
theorem dX10_prunedOn_84 : decode cX10_prunedOn 84 = .ok (.iconst 1, 1) := by decide +kernel
theorem dX10_prunedOn_85 : decode cX10_prunedOn 85 = .ok (.invokevirtual 185, 3) := by decide +kernel
theorem dX10_prunedOn_88 : decode cX10_prunedOn 88 = .ok (.ifCond .le 7, 3) := by decide +kernel
theorem dX10_prunedOn_91 : decode cX10_prunedOn 91 = .ok (.iconst 1, 1) := by decide +kernel
theorem dX10_prunedOn_92 : decode cX10_prunedOn 92 = .ok (.goto 4, 3) := by decide +kernel
theorem dX10_prunedOn_95 : decode cX10_prunedOn 95 = .ok (.iconst 0, 1) := by decide +kernel
theorem dX10_prunedOn_96 : decode cX10_prunedOn 96 = .ok (.iadd, 1) := by decide +kernel
theorem dX10_prunedOn_97 : decode cX10_prunedOn 97 = .ok (.istore_n 2, 1) := by decide +kernel
theorem dX10_prunedOn_98 : decode cX10_prunedOn 98 = .ok (.iinc 5 1, 3) := by decide +kernel
theorem dX10_prunedOn_101 : decode cX10_prunedOn 101 = .ok (.goto (-72), 3) := by decide +kernel
theorem dX10_prunedOn_104 : decode cX10_prunedOn 104 = .ok (.iinc 4 1, 3) := by decide +kernel
theorem dX10_prunedOn_107 : decode cX10_prunedOn 107 = .ok (.goto (-92), 3) := by decide +kernel
theorem dX10_prunedOn_110 : decode cX10_prunedOn 110 = .ok (.iinc 3 1, 3) := by decide +kernel
theorem dX10_prunedOn_113 : decode cX10_prunedOn 113 = .ok (.goto (-109), 3) := by decide +kernel
theorem dX10_prunedOn_116 : decode cX10_prunedOn 116 = .ok (.iload_n 2, 1) := by decide +kernel
theorem dX10_prunedOn_117 : decode cX10_prunedOn 117 = .ok (.ireturn, 1) := by decide +kernel
set_option maxRecDepth 20000 in
theorem ggX10_pruned_X10_prunedOn : GoodIn wsX10_pruned wsX10_prunedOn := goodIn_r _ [5, 6, 7, 8, 9, 10, 4, 11, 12, 13, 14, 15, 16, 17, 18, 19, 20, 21, 22, 23, 24, 25, 26, 27, 28, 29, 30, 31, 32, 33, 34, 35, 36, 37, 38, 39, 40, 41, 42, 43, 44, 45, 46, 47, 48, 49, 50, 51, 52, 53, 54, 55, 56, 57, 58, 59, 60, 61, 62, 63, 64, 65, 66, 67, 68, 69, 70, 71, 72, 73, 74, 75, 76, 77, 78, 79, 80, 81, 82, 83, 84, 85, 86, 87, 88, 89, 90, 91] (by decide +kernel) (by decide +kernel)
set_option maxRecDepth 20000 in
theorem gX10_pruned_X10_prunedOn : GoodIn wsX10_pruned (wsV RX10 195 RX10 yX10_prunedOn wsX10_prunedOn) := goodIn_app (goodIn_of _ (by decide +kernel)) ggX10_pruned_X10_prunedOn
theorem dX10_pruned_0 : decode cX10_pruned 0 = .ok (.aload_n 0, 1) := by decide +kernel
theorem dX10_pruned_1 : decode cX10_pruned 1 = .ok (.iconst 0, 1) := by decide +kernel
theorem dX10_pruned_2 : decode cX10_pruned 2 = .ok (.invokevirtual 195, 3) := by decide +kernel
theorem dX10_pruned_5 : decode cX10_pruned 5 = .ok (.ireturn, 1) := by decide +kernel
set_option maxRecDepth 20000 in
theorem ggX10_addsOn_X10_testsOf : GoodIn wsX10_addsOn wsX10_testsOf := goodIn_r _ [10, 11, 2, 12, 13, 14, 15, 16, 17, 18, 9, 19, 20, 21, 22, 23, 24, 25, 26, 27, 28, 29, 30, 31, 32, 33, 34, 35, 36, 37, 38, 39, 40, 41, 42, 43, 44, 45, 46, 47, 48, 49, 50] (by decide +kernel) (by decide +kernel)
set_option maxRecDepth 20000 in
theorem gX10_addsOn_X10_testsOf : GoodIn wsX10_addsOn (wsV RX10 177 RX10 yX10_testsOf wsX10_testsOf) := goodIn_app (goodIn_of _ (by decide +kernel)) ggX10_addsOn_X10_testsOf
theorem dX10_addsOn_0 : decode cX10_addsOn 0 = .ok (.iconst 0, 1) := by decide +kernel
theorem dX10_addsOn_1 : decode cX10_addsOn 1 = .ok (.istore_n 2, 1) := by decide +kernel
theorem dX10_addsOn_2 : decode cX10_addsOn 2 = .ok (.iconst 0, 1) := by decide +kernel
theorem dX10_addsOn_3 : decode cX10_addsOn 3 = .ok (.istore_n 3, 1) := by decide +kernel
theorem dX10_addsOn_4 : decode cX10_addsOn 4 = .ok (.iload_n 3, 1) := by decide +kernel
theorem dX10_addsOn_5 : decode cX10_addsOn 5 = .ok (.aload_n 0, 1) := by decide +kernel
theorem dX10_addsOn_6 : decode cX10_addsOn 6 = .ok (.getfield 124, 3) := by decide +kernel
theorem dX10_addsOn_9 : decode cX10_addsOn 9 = .ok (.if_icmp .ge 104, 3) := by decide +kernel
theorem dX10_addsOn_12 : decode cX10_addsOn 12 = .ok (.iconst 2, 1) := by decide +kernel
theorem dX10_addsOn_13 : decode cX10_addsOn 13 = .ok (.iload_n 3, 1) := by decide +kernel
theorem dX10_addsOn_14 : decode cX10_addsOn 14 = .ok (.imul, 1) := by decide +kernel
theorem dX10_addsOn_15 : decode cX10_addsOn 15 = .ok (.aload_n 0, 1) := by decide +kernel
theorem dX10_addsOn_16 : decode cX10_addsOn 16 = .ok (.getfield 43, 3) := by decide +kernel
theorem dX10_addsOn_19 : decode cX10_addsOn 19 = .ok (.aload_n 0, 1) := by decide +kernel
theorem dX10_addsOn_20 : decode cX10_addsOn 20 = .ok (.getfield 34, 3) := by decide +kernel
theorem dX10_addsOn_23 : decode cX10_addsOn 23 = .ok (.iload_n 3, 1) := by decide +kernel
theorem dX10_addsOn_24 : decode cX10_addsOn 24 = .ok (.iaload, 1) := by decide +kernel
theorem dX10_addsOn_25 : decode cX10_addsOn 25 = .ok (.iaload, 1) := by decide +kernel
theorem dX10_addsOn_26 : decode cX10_addsOn 26 = .ok (.iadd, 1) := by decide +kernel
theorem dX10_addsOn_27 : decode cX10_addsOn 27 = .ok (.istore 4, 2) := by decide +kernel
theorem dX10_addsOn_29 : decode cX10_addsOn 29 = .ok (.aload_n 0, 1) := by decide +kernel
theorem dX10_addsOn_30 : decode cX10_addsOn 30 = .ok (.getfield 49, 3) := by decide +kernel
theorem dX10_addsOn_33 : decode cX10_addsOn 33 = .ok (.iload 4, 2) := by decide +kernel
theorem dX10_addsOn_35 : decode cX10_addsOn 35 = .ok (.iaload, 1) := by decide +kernel
theorem dX10_addsOn_36 : decode cX10_addsOn 36 = .ok (.ifCond .ne 28, 3) := by decide +kernel
theorem dX10_addsOn_39 : decode cX10_addsOn 39 = .ok (.aload_n 0, 1) := by decide +kernel
theorem dX10_addsOn_40 : decode cX10_addsOn 40 = .ok (.iconst 0, 1) := by decide +kernel
theorem dX10_addsOn_41 : decode cX10_addsOn 41 = .ok (.aload_n 0, 1) := by decide +kernel
theorem dX10_addsOn_42 : decode cX10_addsOn 42 = .ok (.getfield 34, 3) := by decide +kernel
theorem dX10_addsOn_45 : decode cX10_addsOn 45 = .ok (.iload_n 3, 1) := by decide +kernel
theorem dX10_addsOn_46 : decode cX10_addsOn 46 = .ok (.iaload, 1) := by decide +kernel
theorem dX10_addsOn_47 : decode cX10_addsOn 47 = .ok (.aload_n 0, 1) := by decide +kernel
theorem dX10_addsOn_48 : decode cX10_addsOn 48 = .ok (.getfield 37, 3) := by decide +kernel
theorem dX10_addsOn_51 : decode cX10_addsOn 51 = .ok (.iload_n 3, 1) := by decide +kernel
theorem dX10_addsOn_52 : decode cX10_addsOn 52 = .ok (.iaload, 1) := by decide +kernel
theorem dX10_addsOn_53 : decode cX10_addsOn 53 = .ok (.invokevirtual 177, 3) := by decide +kernel
theorem dX10_addsOn_56 : decode cX10_addsOn 56 = .ok (.iconst 2, 1) := by decide +kernel
theorem dX10_addsOn_57 : decode cX10_addsOn 57 = .ok (.if_icmp .ne 7, 3) := by decide +kernel
theorem dX10_addsOn_60 : decode cX10_addsOn 60 = .ok (.iconst 1, 1) := by decide +kernel
theorem dX10_addsOn_61 : decode cX10_addsOn 61 = .ok (.goto 4, 3) := by decide +kernel
theorem dX10_addsOn_64 : decode cX10_addsOn 64 = .ok (.iconst 0, 1) := by decide +kernel
theorem dX10_addsOn_65 : decode cX10_addsOn 65 = .ok (.istore 5, 2) := by decide +kernel
theorem dX10_addsOn_67 : decode cX10_addsOn 67 = .ok (.iload_n 2, 1) := by decide +kernel
theorem dX10_addsOn_68 : decode cX10_addsOn 68 = .ok (.iload 5, 2) := by decide +kernel
theorem dX10_addsOn_70 : decode cX10_addsOn 70 = .ok (.ifCond .eq 7, 3) := by decide +kernel

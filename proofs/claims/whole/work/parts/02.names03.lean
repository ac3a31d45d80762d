theorem dX9_late_5 : decode cX9_late 5 = .ok (.invokevirtual 157, 3) := by decide +kernel
theorem dX9_late_8 : decode cX9_late 8 = .ok (.ifCond .eq 13, 3) := by decide +kernel
theorem dX9_late_11 : decode cX9_late 11 = .ok (.iload_n 2, 1) := by decide +kernel
theorem dX9_late_12 : decode cX9_late 12 = .ok (.ifCond .lt 9, 3) := by decide +kernel
theorem dX9_late_15 : decode cX9_late 15 = .ok (.iload_n 2, 1) := by decide +kernel
theorem dX9_late_16 : decode cX9_late 16 = .ok (.bipush 99, 2) := by decide +kernel
theorem dX9_late_18 : decode cX9_late 18 = .ok (.if_icmp .le 6, 3) := by decide +kernel
theorem dX9_late_21 : decode cX9_late 21 = .ok (.bipush (-2), 2) := by decide +kernel
theorem dX9_late_23 : decode cX9_late 23 = .ok (.ireturn, 1) := by decide +kernel
theorem dX9_late_24 : decode cX9_late 24 = .ok (.aload_n 0, 1) := by decide +kernel
theorem dX9_late_25 : decode cX9_late 25 = .ok (.getfield 75, 3) := by decide +kernel
theorem dX9_late_28 : decode cX9_late 28 = .ok (.getfield 197, 3) := by decide +kernel
theorem dX9_late_31 : decode cX9_late 31 = .ok (.ifCond .ne 6, 3) := by decide +kernel
theorem dX9_late_34 : decode cX9_late 34 = .ok (.bipush (-3), 2) := by decide +kernel
theorem dX9_late_36 : decode cX9_late 36 = .ok (.ireturn, 1) := by decide +kernel
theorem dX9_late_37 : decode cX9_late 37 = .ok (.aload_n 0, 1) := by decide +kernel
theorem dX9_late_38 : decode cX9_late 38 = .ok (.getfield 61, 3) := by decide +kernel
theorem dX9_late_41 : decode cX9_late 41 = .ok (.aload_n 0, 1) := by decide +kernel
theorem dX9_late_42 : decode cX9_late 42 = .ok (.getfield 75, 3) := by decide +kernel
theorem dX9_late_45 : decode cX9_late 45 = .ok (.aload_n 0, 1) := by decide +kernel
theorem dX9_late_46 : decode cX9_late 46 = .ok (.getfield 33, 3) := by decide +kernel
theorem dX9_late_49 : decode cX9_late 49 = .ok (.getfield 120, 3) := by decide +kernel
theorem dX9_late_52 : decode cX9_late 52 = .ok (.aload_n 0, 1) := by decide +kernel
theorem dX9_late_53 : decode cX9_late 53 = .ok (.getfield 33, 3) := by decide +kernel
theorem dX9_late_56 : decode cX9_late 56 = .ok (.getfield 129, 3) := by decide +kernel
theorem dX9_late_59 : decode cX9_late 59 = .ok (.iload_n 1, 1) := by decide +kernel
theorem dX9_late_60 : decode cX9_late 60 = .ok (.invokevirtual 190, 3) := by decide +kernel
theorem dX9_late_63 : decode cX9_late 63 = .ok (.aload_n 0, 1) := by decide +kernel
theorem dX9_late_64 : decode cX9_late 64 = .ok (.getfield 61, 3) := by decide +kernel
theorem dX9_late_67 : decode cX9_late 67 = .ok (.aload_n 0, 1) := by decide +kernel
theorem dX9_late_68 : decode cX9_late 68 = .ok (.getfield 75, 3) := by decide +kernel
theorem dX9_late_71 : decode cX9_late 71 = .ok (.iload_n 2, 1) := by decide +kernel
theorem dX9_late_72 : decode cX9_late 72 = .ok (.invokevirtual 200, 3) := by decide +kernel
theorem dX9_late_75 : decode cX9_late 75 = .ok (.ifCond .eq 7, 3) := by decide +kernel
theorem dX9_late_78 : decode cX9_late 78 = .ok (.iconst 1, 1) := by decide +kernel
theorem dX9_late_79 : decode cX9_late 79 = .ok (.goto 4, 3) := by decide +kernel
theorem dX9_late_82 : decode cX9_late 82 = .ok (.iconst 0, 1) := by decide +kernel
theorem dX9_late_83 : decode cX9_late 83 = .ok (.ireturn, 1) := by decide +kernel
set_option maxRecDepth 20000 in
theorem ggX9_judge_X5_copyFrom : GoodIn wsX9_judge wsX5_copyFrom := goodIn_r _ [12, 13, 14, 173, 174, 175] (by decide +kernel) (by decide +kernel)
set_option maxRecDepth 20000 in
theorem gX9_judge_X5_copyFrom : GoodIn wsX9_judge (wsV RX9 206 RX5 yX5_copyFrom wsX5_copyFrom) := goodIn_app (goodIn_of _ (by decide +kernel)) ggX9_judge_X5_copyFrom
set_option maxRecDepth 20000 in
theorem ggX9_judge_X9_canBe : GoodIn wsX9_judge wsX9_canBe := goodIn_r _ [19, 20, 2, 21, 22, 23, 24, 25, 26, 18, 27, 28, 29, 30, 31, 32, 33, 34, 35, 36, 37, 38, 39, 40, 41, 42, 43, 44, 45, 46, 47, 48, 49, 50, 51, 52, 53, 54, 55, 56, 57, 58, 59, 60, 61, 62, 63, 64, 65, 66, 67, 68, 69, 70, 71, 72, 73, 74, 75, 76, 77, 78, 79, 80, 81, 82, 83, 84, 85, 86, 87, 88, 89, 90, 91, 92, 93, 94, 95, 96, 97, 98, 99, 100, 101, 102, 103, 104, 105, 106, 107, 108, 109, 110, 111, 112, 113, 114, 115, 116, 117, 118, 119, 120, 121, 122, 123, 124, 125, 126, 127, 128, 129, 130, 131, 132, 133, 134, 135, 136, 137, 138, 139, 140, 141, 142, 143, 144, 145, 146, 147, 148, 149, 150, 151, 152, 153, 154, 155, 156, 157, 158, 159, 160, 161, 162, 163, 164, 165, 166, 167, 168, 169, 170, 171, 172, 173, 174, 175, 176, 177, 178, 179, 180, 181, 182, 183, 184, 185, 186, 187, 188, 189, 190, 191, 192, 193, 194, 195] (by decide +kernel) (by decide +kernel)
set_option maxRecDepth 20000 in
theorem gX9_judge_X9_canBe : GoodIn wsX9_judge (wsV RX9 216 RX9 yX9_canBe wsX9_canBe) := goodIn_app (goodIn_of _ (by decide +kernel)) ggX9_judge_X9_canBe
theorem dX9_judge_0 : decode cX9_judge 0 = .ok (.iload_n 1, 1) := by decide +kernel
theorem dX9_judge_1 : decode cX9_judge 1 = .ok (.iconst 1, 1) := by decide +kernel
theorem dX9_judge_2 : decode cX9_judge 2 = .ok (.if_icmp .lt 8, 3) := by decide +kernel
theorem dX9_judge_5 : decode cX9_judge 5 = .ok (.iload_n 1, 1) := by decide +kernel
theorem dX9_judge_6 : decode cX9_judge 6 = .ok (.iconst 4, 1) := by decide +kernel
theorem dX9_judge_7 : decode cX9_judge 7 = .ok (.if_icmp .le 6, 3) := by decide +kernel
theorem dX9_judge_10 : decode cX9_judge 10 = .ok (.bipush (-2), 2) := by decide +kernel
theorem dX9_judge_12 : decode cX9_judge 12 = .ok (.ireturn, 1) := by decide +kernel
theorem dX9_judge_13 : decode cX9_judge 13 = .ok (.lconst 1, 1) := by decide +kernel
theorem dX9_judge_14 : decode cX9_judge 14 = .ok (.lstore 4, 2) := by decide +kernel
theorem dX9_judge_16 : decode cX9_judge 16 = .ok (.iconst 0, 1) := by decide +kernel
theorem dX9_judge_17 : decode cX9_judge 17 = .ok (.istore 6, 2) := by decide +kernel
theorem dX9_judge_19 : decode cX9_judge 19 = .ok (.iload 6, 2) := by decide +kernel
theorem dX9_judge_21 : decode cX9_judge 21 = .ok (.iload_n 1, 1) := by decide +kernel
theorem dX9_judge_22 : decode cX9_judge 22 = .ok (.if_icmp .ge 17, 3) := by decide +kernel
theorem dX9_judge_25 : decode cX9_judge 25 = .ok (.lload 4, 2) := by decide +kernel
theorem dX9_judge_27 : decode cX9_judge 27 = .ok (.ldc2_w 204, 3) := by decide +kernel
theorem dX9_judge_30 : decode cX9_judge 30 = .ok (.lmul, 1) := by decide +kernel
theorem dX9_judge_31 : decode cX9_judge 31 = .ok (.lstore 4, 2) := by decide +kernel
theorem dX9_judge_33 : decode cX9_judge 33 = .ok (.iinc 6 1, 3) := by decide +kernel
theorem dX9_judge_36 : decode cX9_judge 36 = .ok (.goto (-17), 3) := by decide +kernel
theorem dX9_judge_39 : decode cX9_judge 39 = .ok (.lload_n 2, 1) := by decide +kernel
theorem dX9_judge_40 : decode cX9_judge 40 = .ok (.lconst 0, 1) := by decide +kernel
theorem dX9_judge_41 : decode cX9_judge 41 = .ok (.lcmp, 1) := by decide +kernel
theorem dX9_judge_42 : decode cX9_judge 42 = .ok (.ifCond .lt 10, 3) := by decide +kernel
theorem dX9_judge_45 : decode cX9_judge 45 = .ok (.lload_n 2, 1) := by decide +kernel
theorem dX9_judge_46 : decode cX9_judge 46 = .ok (.lload 4, 2) := by decide +kernel
theorem dX9_judge_48 : decode cX9_judge 48 = .ok (.lcmp, 1) := by decide +kernel
theorem dX9_judge_49 : decode cX9_judge 49 = .ok (.ifCond .lt 6, 3) := by decide +kernel
theorem dX9_judge_52 : decode cX9_judge 52 = .ok (.bipush (-2), 2) := by decide +kernel
theorem dX9_judge_54 : decode cX9_judge 54 = .ok (.ireturn, 1) := by decide +kernel
theorem dX9_judge_55 : decode cX9_judge 55 = .ok (.aload_n 0, 1) := by decide +kernel
theorem dX9_judge_56 : decode cX9_judge 56 = .ok (.getfield 37, 3) := by decide +kernel
theorem dX9_judge_59 : decode cX9_judge 59 = .ok (.aload_n 0, 1) := by decide +kernel
theorem dX9_judge_60 : decode cX9_judge 60 = .ok (.getfield 33, 3) := by decide +kernel
theorem dX9_judge_63 : decode cX9_judge 63 = .ok (.invokevirtual 206, 3) := by decide +kernel
theorem dX9_judge_66 : decode cX9_judge 66 = .ok (.iconst 0, 1) := by decide +kernel
theorem dX9_judge_67 : decode cX9_judge 67 = .ok (.istore 6, 2) := by decide +kernel
theorem dX9_judge_69 : decode cX9_judge 69 = .ok (.iload 6, 2) := by decide +kernel
theorem dX9_judge_71 : decode cX9_judge 71 = .ok (.iload_n 1, 1) := by decide +kernel
theorem dX9_judge_72 : decode cX9_judge 72 = .ok (.if_icmp .ge 44, 3) := by decide +kernel
theorem dX9_judge_75 : decode cX9_judge 75 = .ok (.lload 4, 2) := by decide +kernel
theorem dX9_judge_77 : decode cX9_judge 77 = .ok (.ldc2_w 204, 3) := by decide +kernel
theorem dX9_judge_80 : decode cX9_judge 80 = .ok (.ldiv, 1) := by decide +kernel
theorem dX9_judge_81 : decode cX9_judge 81 = .ok (.lstore 4, 2) := by decide +kernel
theorem dX9_judge_83 : decode cX9_judge 83 = .ok (.lload_n 2, 1) := by decide +kernel
theorem dX9_judge_84 : decode cX9_judge 84 = .ok (.lload 4, 2) := by decide +kernel
theorem dX9_judge_86 : decode cX9_judge 86 = .ok (.lconst 1, 1) := by decide +kernel
theorem dX9_judge_87 : decode cX9_judge 87 = .ok (.invokestatic 210, 3) := by decide +kernel
theorem dX9_judge_90 : decode cX9_judge 90 = .ok (.ldiv, 1) := by decide +kernel
theorem dX9_judge_91 : decode cX9_judge 91 = .ok (.ldc2_w 204, 3) := by decide +kernel
theorem dX9_judge_94 : decode cX9_judge 94 = .ok (.lrem, 1) := by decide +kernel
theorem dX9_judge_95 : decode cX9_judge 95 = .ok (.l2i, 1) := by decide +kernel
theorem dX9_judge_96 : decode cX9_judge 96 = .ok (.istore 7, 2) := by decide +kernel
theorem dX9_judge_98 : decode cX9_judge 98 = .ok (.aload_n 0, 1) := by decide +kernel
theorem dX9_judge_99 : decode cX9_judge 99 = .ok (.iload 7, 2) := by decide +kernel
theorem dX9_judge_101 : decode cX9_judge 101 = .ok (.invokevirtual 216, 3) := by decide +kernel
theorem dX9_judge_104 : decode cX9_judge 104 = .ok (.ifCond .ne 6, 3) := by decide +kernel
theorem dX9_judge_107 : decode cX9_judge 107 = .ok (.iload 6, 2) := by decide +kernel
theorem dX9_judge_109 : decode cX9_judge 109 = .ok (.ireturn, 1) := by decide +kernel
theorem dX9_judge_110 : decode cX9_judge 110 = .ok (.iinc 6 1, 3) := by decide +kernel
theorem dX9_judge_113 : decode cX9_judge 113 = .ok (.goto (-44), 3) := by decide +kernel
theorem dX9_judge_116 : decode cX9_judge 116 = .ok (.bipush (-9), 2) := by decide +kernel
theorem dX9_judge_118 : decode cX9_judge 118 = .ok (.ireturn, 1) := by decide +kernel
set_option maxRecDepth 20000 in
theorem ggX9_see_X6_add : GoodIn wsX9_see wsX6_add := goodIn_r _ [7, 8, 9, 10, 11, 25, 26, 27, 28] (by decide +kernel) (by decide +kernel)
set_option maxRecDepth 20000 in
theorem gX9_see_X6_add : GoodIn wsX9_see (wsV RX9 220 RX6 yX6_add wsX6_add) := goodIn_app (goodIn_of _ (by decide +kernel)) ggX9_see_X6_add
theorem dX9_see_0 : decode cX9_see 0 = .ok (.iload_n 1, 1) := by decide +kernel
theorem dX9_see_1 : decode cX9_see 1 = .ok (.ifCond .lt 29, 3) := by decide +kernel
theorem dX9_see_4 : decode cX9_see 4 = .ok (.iload_n 1, 1) := by decide +kernel
theorem dX9_see_5 : decode cX9_see 5 = .ok (.sipush 256, 3) := by decide +kernel
theorem dX9_see_8 : decode cX9_see 8 = .ok (.if_icmp .ge 22, 3) := by decide +kernel
theorem dX9_see_11 : decode cX9_see 11 = .ok (.iload_n 2, 1) := by decide +kernel
theorem dX9_see_12 : decode cX9_see 12 = .ok (.ifCond .lt 18, 3) := by decide +kernel
theorem dX9_see_15 : decode cX9_see 15 = .ok (.iload_n 2, 1) := by decide +kernel
theorem dX9_see_16 : decode cX9_see 16 = .ok (.bipush 99, 2) := by decide +kernel
theorem dX9_see_18 : decode cX9_see 18 = .ok (.if_icmp .gt 12, 3) := by decide +kernel
theorem dX9_see_21 : decode cX9_see 21 = .ok (.iload_n 3, 1) := by decide +kernel
theorem dX9_see_22 : decode cX9_see 22 = .ok (.ifCond .lt 8, 3) := by decide +kernel
theorem dX9_see_25 : decode cX9_see 25 = .ok (.iload_n 3, 1) := by decide +kernel
theorem dX9_see_26 : decode cX9_see 26 = .ok (.iconst 1, 1) := by decide +kernel
theorem dX9_see_27 : decode cX9_see 27 = .ok (.if_icmp .le 6, 3) := by decide +kernel
theorem dX9_see_30 : decode cX9_see 30 = .ok (.bipush (-2), 2) := by decide +kernel
theorem dX9_see_32 : decode cX9_see 32 = .ok (.ireturn, 1) := by decide +kernel
theorem dX9_see_33 : decode cX9_see 33 = .ok (.aload_n 0, 1) := by decide +kernel
theorem dX9_see_34 : decode cX9_see 34 = .ok (.getfield 26, 3) := by decide +kernel
theorem dX9_see_37 : decode cX9_see 37 = .ok (.getfield 219, 3) := by decide +kernel
theorem dX9_see_40 : decode cX9_see 40 = .ok (.bipush 6, 2) := by decide +kernel
theorem dX9_see_42 : decode cX9_see 42 = .ok (.if_icmp .lt 6, 3) := by decide +kernel
theorem dX9_see_45 : decode cX9_see 45 = .ok (.bipush (-4), 2) := by decide +kernel
theorem dX9_see_47 : decode cX9_see 47 = .ok (.ireturn, 1) := by decide +kernel
theorem dX9_see_48 : decode cX9_see 48 = .ok (.aload_n 0, 1) := by decide +kernel
theorem dX9_see_49 : decode cX9_see 49 = .ok (.getfield 26, 3) := by decide +kernel
theorem dX9_see_52 : decode cX9_see 52 = .ok (.iload_n 1, 1) := by decide +kernel
theorem dX9_see_53 : decode cX9_see 53 = .ok (.iload_n 2, 1) := by decide +kernel
theorem dX9_see_54 : decode cX9_see 54 = .ok (.iload_n 3, 1) := by decide +kernel
theorem dX9_see_55 : decode cX9_see 55 = .ok (.invokevirtual 220, 3) := by decide +kernel
theorem dX9_see_58 : decode cX9_see 58 = .ok (.aload_n 0, 1) := by decide +kernel
theorem dX9_see_59 : decode cX9_see 59 = .ok (.getfield 26, 3) := by decide +kernel
theorem dX9_see_62 : decode cX9_see 62 = .ok (.getfield 219, 3) := by decide +kernel
theorem dX9_see_65 : decode cX9_see 65 = .ok (.ireturn, 1) := by decide +kernel
theorem dX9_unsee_0 : decode cX9_unsee 0 = .ok (.aload_n 0, 1) := by decide +kernel
theorem dX9_unsee_1 : decode cX9_unsee 1 = .ok (.getfield 26, 3) := by decide +kernel
theorem dX9_unsee_4 : decode cX9_unsee 4 = .ok (.getfield 219, 3) := by decide +kernel
theorem dX9_unsee_7 : decode cX9_unsee 7 = .ok (.istore_n 1, 1) := by decide +kernel
theorem dX9_unsee_8 : decode cX9_unsee 8 = .ok (.aload_n 0, 1) := by decide +kernel
theorem dX9_unsee_9 : decode cX9_unsee 9 = .ok (.getfield 26, 3) := by decide +kernel
theorem dX9_unsee_12 : decode cX9_unsee 12 = .ok (.iconst 0, 1) := by decide +kernel
theorem dX9_unsee_13 : decode cX9_unsee 13 = .ok (.putfield 219, 3) := by decide +kernel
theorem dX9_unsee_16 : decode cX9_unsee 16 = .ok (.iload_n 1, 1) := by decide +kernel
theorem dX9_unsee_17 : decode cX9_unsee 17 = .ok (.ireturn, 1) := by decide +kernel
set_option maxRecDepth 20000 in
theorem ggX9_slower_X5_copyFrom : GoodIn wsX9_slower wsX5_copyFrom := goodIn_r _ [10, 11, 12, 92, 93, 94] (by decide +kernel) (by decide +kernel)
set_option maxRecDepth 20000 in
theorem gX9_slower_X5_copyFrom : GoodIn wsX9_slower (wsV RX9 206 RX5 yX5_copyFrom wsX5_copyFrom) := goodIn_app (goodIn_of _ (by decide +kernel)) ggX9_slower_X5_copyFrom
set_option maxRecDepth 20000 in
theorem ggX9_slower_X9_agreesWithSeen : GoodIn wsX9_slower wsX9_agreesWithSeen := goodIn_r _ [17, 18, 19, 20, 3, 1, 21, 5, 22, 23, 24, 25, 26, 27, 28, 29, 30, 31, 32, 33, 34, 35, 36, 37, 38, 39, 40, 41, 42, 43, 44, 45, 46, 47, 48, 49, 50, 51, 52, 53, 54, 55, 56, 57, 58, 59, 60, 61, 62, 63, 64, 65, 66, 67, 68, 69, 70, 71, 72, 73, 74, 75, 76, 77, 78, 79, 80, 95, 96, 97, 98, 92, 93, 94, 81, 82, 83, 84, 85, 86, 87, 88, 89, 90, 91, 99, 100, 101, 102] (by decide +kernel) (by decide +kernel)
set_option maxRecDepth 20000 in
theorem gX9_slower_X9_agreesWithSeen : GoodIn wsX9_slower (wsV RX9 223 RX9 yX9_agreesWithSeen wsX9_agreesWithSeen) := goodIn_app (goodIn_of _ (by decide +kernel)) ggX9_slower_X9_agreesWithSeen
theorem dX9_slower_0 : decode cX9_slower 0 = .ok (.iload_n 1, 1) := by decide +kernel
theorem dX9_slower_1 : decode cX9_slower 1 = .ok (.ifCond .lt 8, 3) := by decide +kernel
theorem dX9_slower_4 : decode cX9_slower 4 = .ok (.iload_n 1, 1) := by decide +kernel
theorem dX9_slower_5 : decode cX9_slower 5 = .ok (.iconst 1, 1) := by decide +kernel
theorem dX9_slower_6 : decode cX9_slower 6 = .ok (.if_icmp .le 6, 3) := by decide +kernel
theorem dX9_slower_9 : decode cX9_slower 9 = .ok (.bipush (-2), 2) := by decide +kernel
theorem dX9_slower_11 : decode cX9_slower 11 = .ok (.ireturn, 1) := by decide +kernel
theorem dX9_slower_12 : decode cX9_slower 12 = .ok (.bipush (-9), 2) := by decide +kernel
theorem dX9_slower_14 : decode cX9_slower 14 = .ok (.istore_n 2, 1) := by decide +kernel
theorem dX9_slower_15 : decode cX9_slower 15 = .ok (.iconst 0, 1) := by decide +kernel
theorem dX9_slower_16 : decode cX9_slower 16 = .ok (.istore_n 3, 1) := by decide +kernel
theorem dX9_slower_17 : decode cX9_slower 17 = .ok (.aload_n 0, 1) := by decide +kernel
theorem dX9_slower_18 : decode cX9_slower 18 = .ok (.getfield 37, 3) := by decide +kernel
theorem dX9_slower_21 : decode cX9_slower 21 = .ok (.aload_n 0, 1) := by decide +kernel
theorem dX9_slower_22 : decode cX9_slower 22 = .ok (.getfield 33, 3) := by decide +kernel
theorem dX9_slower_25 : decode cX9_slower 25 = .ok (.invokevirtual 206, 3) := by decide +kernel
theorem dX9_slower_28 : decode cX9_slower 28 = .ok (.iconst 0, 1) := by decide +kernel
theorem dX9_slower_29 : decode cX9_slower 29 = .ok (.istore 4, 2) := by decide +kernel
theorem dX9_slower_31 : decode cX9_slower 31 = .ok (.iload 4, 2) := by decide +kernel
theorem dX9_slower_33 : decode cX9_slower 33 = .ok (.aload_n 0, 1) := by decide +kernel
theorem dX9_slower_34 : decode cX9_slower 34 = .ok (.getfield 75, 3) := by decide +kernel
theorem dX9_slower_37 : decode cX9_slower 37 = .ok (.getfield 197, 3) := by decide +kernel
theorem dX9_slower_40 : decode cX9_slower 40 = .ok (.if_icmp .ge 95, 3) := by decide +kernel
theorem dX9_slower_43 : decode cX9_slower 43 = .ok (.iconst 1, 1) := by decide +kernel
theorem dX9_slower_44 : decode cX9_slower 44 = .ok (.istore 5, 2) := by decide +kernel
theorem dX9_slower_46 : decode cX9_slower 46 = .ok (.iload 5, 2) := by decide +kernel
theorem dX9_slower_48 : decode cX9_slower 48 = .ok (.bipush 9, 2) := by decide +kernel
theorem dX9_slower_50 : decode cX9_slower 50 = .ok (.if_icmp .gt 59, 3) := by decide +kernel
theorem dX9_slower_53 : decode cX9_slower 53 = .ok (.aload_n 0, 1) := by decide +kernel
theorem dX9_slower_54 : decode cX9_slower 54 = .ok (.getfield 37, 3) := by decide +kernel
theorem dX9_slower_57 : decode cX9_slower 57 = .ok (.getfield 129, 3) := by decide +kernel
theorem dX9_slower_60 : decode cX9_slower 60 = .ok (.iload 4, 2) := by decide +kernel
theorem dX9_slower_62 : decode cX9_slower 62 = .ok (.aload_n 0, 1) := by decide +kernel
theorem dX9_slower_63 : decode cX9_slower 63 = .ok (.getfield 33, 3) := by decide +kernel
theorem dX9_slower_66 : decode cX9_slower 66 = .ok (.getfield 129, 3) := by decide +kernel
theorem dX9_slower_69 : decode cX9_slower 69 = .ok (.iload 4, 2) := by decide +kernel
theorem dX9_slower_71 : decode cX9_slower 71 = .ok (.iaload, 1) := by decide +kernel
theorem dX9_slower_72 : decode cX9_slower 72 = .ok (.iload 5, 2) := by decide +kernel
theorem dX9_slower_74 : decode cX9_slower 74 = .ok (.iadd, 1) := by decide +kernel
theorem dX9_slower_75 : decode cX9_slower 75 = .ok (.iastore, 1) := by decide +kernel
theorem dX9_slower_76 : decode cX9_slower 76 = .ok (.aload_n 0, 1) := by decide +kernel
theorem dX9_slower_77 : decode cX9_slower 77 = .ok (.invokevirtual 223, 3) := by decide +kernel
theorem dX9_slower_80 : decode cX9_slower 80 = .ok (.ifCond .eq 23, 3) := by decide +kernel
theorem dX9_slower_83 : decode cX9_slower 83 = .ok (.iload_n 3, 1) := by decide +kernel
theorem dX9_slower_84 : decode cX9_slower 84 = .ok (.ifCond .ne 14, 3) := by decide +kernel
theorem dX9_slower_87 : decode cX9_slower 87 = .ok (.bipush 10, 2) := by decide +kernel
theorem dX9_slower_89 : decode cX9_slower 89 = .ok (.iload 4, 2) := by decide +kernel
theorem dX9_slower_91 : decode cX9_slower 91 = .ok (.imul, 1) := by decide +kernel
theorem dX9_slower_92 : decode cX9_slower 92 = .ok (.iload 5, 2) := by decide +kernel
theorem dX9_slower_94 : decode cX9_slower 94 = .ok (.iadd, 1) := by decide +kernel
theorem dX9_slower_95 : decode cX9_slower 95 = .ok (.goto 4, 3) := by decide +kernel
theorem dX9_slower_98 : decode cX9_slower 98 = .ok (.iload_n 2, 1) := by decide +kernel
theorem dX9_slower_99 : decode cX9_slower 99 = .ok (.istore_n 2, 1) := by decide +kernel
theorem dX9_slower_100 : decode cX9_slower 100 = .ok (.iinc 3 1, 3) := by decide +kernel
theorem dX9_slower_103 : decode cX9_slower 103 = .ok (.iinc 5 1, 3) := by decide +kernel
theorem dX9_slower_106 : decode cX9_slower 106 = .ok (.goto (-60), 3) := by decide +kernel
theorem dX9_slower_109 : decode cX9_slower 109 = .ok (.aload_n 0, 1) := by decide +kernel
theorem dX9_slower_110 : decode cX9_slower 110 = .ok (.getfield 37, 3) := by decide +kernel
theorem dX9_slower_113 : decode cX9_slower 113 = .ok (.getfield 129, 3) := by decide +kernel
theorem dX9_slower_116 : decode cX9_slower 116 = .ok (.iload 4, 2) := by decide +kernel
theorem dX9_slower_118 : decode cX9_slower 118 = .ok (.aload_n 0, 1) := by decide +kernel
theorem dX9_slower_119 : decode cX9_slower 119 = .ok (.getfield 33, 3) := by decide +kernel
theorem dX9_slower_122 : decode cX9_slower 122 = .ok (.getfield 129, 3) := by decide +kernel
theorem dX9_slower_125 : decode cX9_slower 125 = .ok (.iload 4, 2) := by decide +kernel
theorem dX9_slower_127 : decode cX9_slower 127 = .ok (.iaload, 1) := by decide +kernel
theorem dX9_slower_128 : decode cX9_slower 128 = .ok (.iastore, 1) := by decide +kernel
theorem dX9_slower_129 : decode cX9_slower 129 = .ok (.iinc 4 1, 3) := by decide +kernel
theorem dX9_slower_132 : decode cX9_slower 132 = .ok (.goto (-101), 3) := by decide +kernel
theorem dX9_slower_135 : decode cX9_slower 135 = .ok (.iload_n 1, 1) := by decide +kernel
theorem dX9_slower_136 : decode cX9_slower 136 = .ok (.ifCond .ne 7, 3) := by decide +kernel
theorem dX9_slower_139 : decode cX9_slower 139 = .ok (.iload_n 3, 1) := by decide +kernel
theorem dX9_slower_140 : decode cX9_slower 140 = .ok (.goto 4, 3) := by decide +kernel
theorem dX9_slower_143 : decode cX9_slower 143 = .ok (.iload_n 2, 1) := by decide +kernel
theorem dX9_slower_144 : decode cX9_slower 144 = .ok (.ireturn, 1) := by decide +kernel
set_option maxRecDepth 20000 in
theorem ggX9_share_X2_hasGate : GoodIn wsX9_share wsX2_hasGate := goodIn_r _ [10, 11, 54, 55, 56, 57, 58, 59, 60, 61, 62, 63, 64] (by decide +kernel) (by decide +kernel)
set_option maxRecDepth 20000 in
theorem gX9_share_X2_hasGate : GoodIn wsX9_share (wsV RX9 116 RX2 yX2_hasGate wsX2_hasGate) := goodIn_app (goodIn_of _ (by decide +kernel)) ggX9_share_X2_hasGate
set_option maxRecDepth 20000 in
theorem ggX9_share_J6_bitCount_0f7a4 : GoodIn wsX9_share wsJ6_bitCount_0f7a4 := goodIn_r _ [15, 16, 17, 18] (by decide +kernel) (by decide +kernel)
set_option maxRecDepth 20000 in
theorem gX9_share_J6_bitCount_0f7a4 : GoodIn wsX9_share (va_wsS RX9 227 yJ6_bitCount_0f7a4 wsJ6_bitCount_0f7a4) := goodIn_app (goodIn_of _ (by decide +kernel)) ggX9_share_J6_bitCount_0f7a4
set_option maxRecDepth 20000 in
theorem ggX9_share_X7_greatest : GoodIn wsX9_share wsX7_greatest := goodIn_r _ [23, 24, 25, 26, 27, 28, 29, 30, 31, 32, 54, 55, 56, 57, 58, 59, 60, 61, 62, 63, 64, 68] (by decide +kernel) (by decide +kernel)
set_option maxRecDepth 20000 in
theorem gX9_share_X7_greatest : GoodIn wsX9_share (wsV RX9 233 RX7 yX7_greatest wsX7_greatest) := goodIn_app (goodIn_of _ (by decide +kernel)) ggX9_share_X7_greatest
set_option maxRecDepth 20000 in
theorem ggX9_share_X9_ordersOf : GoodIn wsX9_share wsX9_ordersOf := goodIn_r _ [36, 37] (by decide +kernel) (by decide +kernel)
set_option maxRecDepth 20000 in
theorem gX9_share_X9_ordersOf : GoodIn wsX9_share (va_wsS RX9 237 yX9_ordersOf wsX9_ordersOf) := goodIn_app (goodIn_of _ (by decide +kernel)) ggX9_share_X9_ordersOf
set_option maxRecDepth 20000 in
theorem ggX9_share_X9_fraction : GoodIn wsX9_share wsX9_fraction := goodIn_r _ [40] (by decide +kernel) (by decide +kernel)
set_option maxRecDepth 20000 in
theorem gX9_share_X9_fraction : GoodIn wsX9_share (va_wsS RX9 240 yX9_fraction wsX9_fraction) := goodIn_app (goodIn_of _ (by decide +kernel)) ggX9_share_X9_fraction
theorem dX9_share_0 : decode cX9_share 0 = .ok (.aload_n 0, 1) := by decide +kernel
theorem dX9_share_1 : decode cX9_share 1 = .ok (.getfield 75, 3) := by decide +kernel
theorem dX9_share_4 : decode cX9_share 4 = .ok (.iload_n 1, 1) := by decide +kernel
theorem dX9_share_5 : decode cX9_share 5 = .ok (.invokevirtual 116, 3) := by decide +kernel
theorem dX9_share_8 : decode cX9_share 8 = .ok (.ifCond .ne 5, 3) := by decide +kernel
theorem dX9_share_11 : decode cX9_share 11 = .ok (.iconst (-1), 1) := by decide +kernel
theorem dX9_share_12 : decode cX9_share 12 = .ok (.ireturn, 1) := by decide +kernel
theorem dX9_share_13 : decode cX9_share 13 = .ok (.iconst 0, 1) := by decide +kernel
theorem dX9_share_14 : decode cX9_share 14 = .ok (.istore_n 3, 1) := by decide +kernel
theorem dX9_share_15 : decode cX9_share 15 = .ok (.iconst 1, 1) := by decide +kernel
theorem dX9_share_16 : decode cX9_share 16 = .ok (.aload_n 0, 1) := by decide +kernel
theorem dX9_share_17 : decode cX9_share 17 = .ok (.getfield 75, 3) := by decide +kernel
theorem dX9_share_20 : decode cX9_share 20 = .ok (.getfield 197, 3) := by decide +kernel
theorem dX9_share_23 : decode cX9_share 23 = .ok (.ishl, 1) := by decide +kernel
theorem dX9_share_24 : decode cX9_share 24 = .ok (.istore 4, 2) := by decide +kernel
theorem dX9_share_26 : decode cX9_share 26 = .ok (.iconst 0, 1) := by decide +kernel
theorem dX9_share_27 : decode cX9_share 27 = .ok (.istore 5, 2) := by decide +kernel
theorem dX9_share_29 : decode cX9_share 29 = .ok (.iload 5, 2) := by decide +kernel
theorem dX9_share_31 : decode cX9_share 31 = .ok (.iload 4, 2) := by decide +kernel
theorem dX9_share_33 : decode cX9_share 33 = .ok (.if_icmp .ge 99, 3) := by decide +kernel
theorem dX9_share_36 : decode cX9_share 36 = .ok (.iload 5, 2) := by decide +kernel
theorem dX9_share_38 : decode cX9_share 38 = .ok (.iload_n 1, 1) := by decide +kernel
theorem dX9_share_39 : decode cX9_share 39 = .ok (.ishr, 1) := by decide +kernel
theorem dX9_share_40 : decode cX9_share 40 = .ok (.iconst 1, 1) := by decide +kernel
theorem dX9_share_41 : decode cX9_share 41 = .ok (.iand, 1) := by decide +kernel
theorem dX9_share_42 : decode cX9_share 42 = .ok (.ifCond .ne 84, 3) := by decide +kernel
theorem dX9_share_45 : decode cX9_share 45 = .ok (.iload 5, 2) := by decide +kernel
theorem dX9_share_47 : decode cX9_share 47 = .ok (.invokestatic 227, 3) := by decide +kernel
theorem dX9_share_50 : decode cX9_share 50 = .ok (.istore 6, 2) := by decide +kernel
theorem dX9_share_52 : decode cX9_share 52 = .ok (.aload_n 0, 1) := by decide +kernel
theorem dX9_share_53 : decode cX9_share 53 = .ok (.getfield 68, 3) := by decide +kernel
theorem dX9_share_56 : decode cX9_share 56 = .ok (.aload_n 0, 1) := by decide +kernel
theorem dX9_share_57 : decode cX9_share 57 = .ok (.getfield 75, 3) := by decide +kernel
theorem dX9_share_60 : decode cX9_share 60 = .ok (.aload_n 0, 1) := by decide +kernel
theorem dX9_share_61 : decode cX9_share 61 = .ok (.getfield 33, 3) := by decide +kernel
theorem dX9_share_64 : decode cX9_share 64 = .ok (.getfield 129, 3) := by decide +kernel
theorem dX9_share_67 : decode cX9_share 67 = .ok (.iload 5, 2) := by decide +kernel
theorem dX9_share_69 : decode cX9_share 69 = .ok (.iconst 1, 1) := by decide +kernel
theorem dX9_share_70 : decode cX9_share 70 = .ok (.iload_n 1, 1) := by decide +kernel
theorem dX9_share_71 : decode cX9_share 71 = .ok (.ishl, 1) := by decide +kernel
theorem dX9_share_72 : decode cX9_share 72 = .ok (.ior, 1) := by decide +kernel
theorem dX9_share_73 : decode cX9_share 73 = .ok (.invokevirtual 233, 3) := by decide +kernel
theorem dX9_share_76 : decode cX9_share 76 = .ok (.aload_n 0, 1) := by decide +kernel
theorem dX9_share_77 : decode cX9_share 77 = .ok (.getfield 68, 3) := by decide +kernel
theorem dX9_share_80 : decode cX9_share 80 = .ok (.aload_n 0, 1) := by decide +kernel
theorem dX9_share_81 : decode cX9_share 81 = .ok (.getfield 75, 3) := by decide +kernel
theorem dX9_share_84 : decode cX9_share 84 = .ok (.aload_n 0, 1) := by decide +kernel
theorem dX9_share_85 : decode cX9_share 85 = .ok (.getfield 33, 3) := by decide +kernel
theorem dX9_share_88 : decode cX9_share 88 = .ok (.getfield 129, 3) := by decide +kernel
theorem dX9_share_91 : decode cX9_share 91 = .ok (.iload 5, 2) := by decide +kernel
theorem dX9_share_93 : decode cX9_share 93 = .ok (.invokevirtual 233, 3) := by decide +kernel
theorem dX9_share_96 : decode cX9_share 96 = .ok (.isub, 1) := by decide +kernel
theorem dX9_share_97 : decode cX9_share 97 = .ok (.istore 7, 2) := by decide +kernel
theorem dX9_share_99 : decode cX9_share 99 = .ok (.iload_n 3, 1) := by decide +kernel
theorem dX9_share_100 : decode cX9_share 100 = .ok (.iload 7, 2) := by decide +kernel
theorem dX9_share_102 : decode cX9_share 102 = .ok (.iload 6, 2) := by decide +kernel
theorem dX9_share_104 : decode cX9_share 104 = .ok (.invokestatic 237, 3) := by decide +kernel
theorem dX9_share_107 : decode cX9_share 107 = .ok (.imul, 1) := by decide +kernel
theorem dX9_share_108 : decode cX9_share 108 = .ok (.aload_n 0, 1) := by decide +kernel
theorem dX9_share_109 : decode cX9_share 109 = .ok (.getfield 75, 3) := by decide +kernel
theorem dX9_share_112 : decode cX9_share 112 = .ok (.getfield 197, 3) := by decide +kernel
theorem dX9_share_115 : decode cX9_share 115 = .ok (.iconst 1, 1) := by decide +kernel
theorem dX9_share_116 : decode cX9_share 116 = .ok (.isub, 1) := by decide +kernel
theorem dX9_share_117 : decode cX9_share 117 = .ok (.iload 6, 2) := by decide +kernel
theorem dX9_share_119 : decode cX9_share 119 = .ok (.isub, 1) := by decide +kernel
theorem dX9_share_120 : decode cX9_share 120 = .ok (.invokestatic 237, 3) := by decide +kernel
theorem dX9_share_123 : decode cX9_share 123 = .ok (.imul, 1) := by decide +kernel
theorem dX9_share_124 : decode cX9_share 124 = .ok (.iadd, 1) := by decide +kernel
theorem dX9_share_125 : decode cX9_share 125 = .ok (.istore_n 3, 1) := by decide +kernel
theorem dX9_share_126 : decode cX9_share 126 = .ok (.iinc 5 1, 3) := by decide +kernel
theorem dX9_share_129 : decode cX9_share 129 = .ok (.goto (-100), 3) := by decide +kernel
theorem dX9_share_132 : decode cX9_share 132 = .ok (.iload_n 3, 1) := by decide +kernel
theorem dX9_share_133 : decode cX9_share 133 = .ok (.aload_n 0, 1) := by decide +kernel
theorem dX9_share_134 : decode cX9_share 134 = .ok (.getfield 75, 3) := by decide +kernel
theorem dX9_share_137 : decode cX9_share 137 = .ok (.getfield 197, 3) := by decide +kernel
theorem dX9_share_140 : decode cX9_share 140 = .ok (.invokestatic 237, 3) := by decide +kernel
theorem dX9_share_143 : decode cX9_share 143 = .ok (.iload_n 2, 1) := by decide +kernel
theorem dX9_share_144 : decode cX9_share 144 = .ok (.invokestatic 240, 3) := by decide +kernel
theorem dX9_share_147 : decode cX9_share 147 = .ok (.ireturn, 1) := by decide +kernel
set_option maxRecDepth 20000 in
theorem ggX9_slows_X2_hasPair : GoodIn wsX9_slows wsX2_hasPair := goodIn_r _ [12, 13, 14, 15, 11, 16, 17, 18, 19, 20, 21, 87, 88, 89, 90, 91, 92, 93, 94, 95, 96, 97] (by decide +kernel) (by decide +kernel)
set_option maxRecDepth 20000 in
theorem gX9_slows_X2_hasPair : GoodIn wsX9_slows (wsV RX9 157 RX2 yX2_hasPair wsX2_hasPair) := goodIn_app (goodIn_of _ (by decide +kernel)) ggX9_slows_X2_hasPair
set_option maxRecDepth 20000 in
theorem ggX9_slows_X5_copyFrom : GoodIn wsX9_slows wsX5_copyFrom := goodIn_r _ [26, 27, 28, 98, 99, 100] (by decide +kernel) (by decide +kernel)
set_option maxRecDepth 20000 in
theorem gX9_slows_X5_copyFrom : GoodIn wsX9_slows (wsV RX9 206 RX5 yX5_copyFrom wsX5_copyFrom) := goodIn_app (goodIn_of _ (by decide +kernel)) ggX9_slows_X5_copyFrom
set_option maxRecDepth 20000 in
theorem ggX9_slows_X9_chanceOf : GoodIn wsX9_slows wsX9_chanceOf := goodIn_r _ [33, 1, 2, 74, 75, 76, 77, 78, 79, 80, 81, 82, 83, 84, 85, 86, 87, 88, 89, 90, 91, 92, 93, 94, 95, 96, 97] (by decide +kernel) (by decide +kernel)
set_option maxRecDepth 20000 in
theorem gX9_slows_X9_chanceOf : GoodIn wsX9_slows (wsV RX9 244 RX9 yX9_chanceOf wsX9_chanceOf) := goodIn_app (goodIn_of _ (by decide +kernel)) ggX9_slows_X9_chanceOf
set_option maxRecDepth 20000 in
theorem ggX9_slows_X9_slowTrial : GoodIn wsX9_slows wsX9_slowTrial := goodIn_r _ [37, 1, 2, 3, 7, 4, 74, 75, 76, 77, 78, 79, 80, 81, 82, 83, 84, 85, 86, 87, 88, 89, 90, 91, 92, 93, 94, 95, 96, 97, 98, 99, 100] (by decide +kernel) (by decide +kernel)
set_option maxRecDepth 20000 in
theorem gX9_slows_X9_slowTrial : GoodIn wsX9_slows (wsV RX9 247 RX9 yX9_slowTrial wsX9_slowTrial) := goodIn_app (goodIn_of _ (by decide +kernel)) ggX9_slows_X9_slowTrial
set_option maxRecDepth 20000 in
theorem ggX9_slows_X8_run : GoodIn wsX9_slows wsX8_run := goodIn_r _ [42, 43, 44, 45, 46, 47, 48, 49, 50, 51, 52, 41, 53, 54, 55, 56, 57, 58, 59, 60, 61, 62, 87, 88, 89, 90, 91, 92, 93, 94, 95, 96, 97, 101, 102, 103, 104] (by decide +kernel) (by decide +kernel)
set_option maxRecDepth 20000 in
theorem gX9_slows_X8_run : GoodIn wsX9_slows (wsV RX9 190 RX8 yX8_run wsX8_run) := goodIn_app (goodIn_of _ (by decide +kernel)) ggX9_slows_X8_run
set_option maxRecDepth 20000 in
theorem ggX9_slows_X8_isLate : GoodIn wsX9_slows wsX8_isLate := goodIn_r _ [66, 48, 45, 67, 68, 69, 41, 70, 46, 47, 87, 88, 89, 90, 91, 92, 93, 94, 95, 96, 97, 101, 102, 103, 104] (by decide +kernel) (by decide +kernel)
set_option maxRecDepth 20000 in
theorem gX9_slows_X8_isLate : GoodIn wsX9_slows (wsV RX9 200 RX8 yX8_isLate wsX8_isLate) := goodIn_app (goodIn_of _ (by decide +kernel)) ggX9_slows_X8_isLate
set_option maxRecDepth 20000 in
theorem ggX9_slows_X9_fraction : GoodIn wsX9_slows wsX9_fraction := goodIn_r _ [73] (by decide +kernel) (by decide +kernel)
set_option maxRecDepth 20000 in
theorem gX9_slows_X9_fraction : GoodIn wsX9_slows (va_wsS RX9 240 yX9_fraction wsX9_fraction) := goodIn_app (goodIn_of _ (by decide +kernel)) ggX9_slows_X9_fraction
theorem dX9_slows_0 : decode cX9_slows 0 = .ok (.aload_n 0, 1) := by decide +kernel
theorem dX9_slows_1 : decode cX9_slows 1 = .ok (.getfield 75, 3) := by decide +kernel
theorem dX9_slows_4 : decode cX9_slows 4 = .ok (.iload_n 1, 1) := by decide +kernel
theorem dX9_slows_5 : decode cX9_slows 5 = .ok (.invokevirtual 157, 3) := by decide +kernel
theorem dX9_slows_8 : decode cX9_slows 8 = .ok (.ifCond .eq 23, 3) := by decide +kernel
theorem dX9_slows_11 : decode cX9_slows 11 = .ok (.iload_n 2, 1) := by decide +kernel
theorem dX9_slows_12 : decode cX9_slows 12 = .ok (.ifCond .lt 19, 3) := by decide +kernel
theorem dX9_slows_15 : decode cX9_slows 15 = .ok (.iload_n 2, 1) := by decide +kernel
theorem dX9_slows_16 : decode cX9_slows 16 = .ok (.bipush 99, 2) := by decide +kernel
theorem dX9_slows_18 : decode cX9_slows 18 = .ok (.if_icmp .gt 13, 3) := by decide +kernel
theorem dX9_slows_21 : decode cX9_slows 21 = .ok (.iload_n 3, 1) := by decide +kernel
theorem dX9_slows_22 : decode cX9_slows 22 = .ok (.ifCond .lt 9, 3) := by decide +kernel
theorem dX9_slows_25 : decode cX9_slows 25 = .ok (.iload_n 3, 1) := by decide +kernel
theorem dX9_slows_26 : decode cX9_slows 26 = .ok (.bipush 10, 2) := by decide +kernel
theorem dX9_slows_28 : decode cX9_slows 28 = .ok (.if_icmp .le 6, 3) := by decide +kernel
theorem dX9_slows_31 : decode cX9_slows 31 = .ok (.bipush (-2), 2) := by decide +kernel
theorem dX9_slows_33 : decode cX9_slows 33 = .ok (.ireturn, 1) := by decide +kernel
theorem dX9_slows_34 : decode cX9_slows 34 = .ok (.aload_n 0, 1) := by decide +kernel
theorem dX9_slows_35 : decode cX9_slows 35 = .ok (.getfield 75, 3) := by decide +kernel
theorem dX9_slows_38 : decode cX9_slows 38 = .ok (.getfield 197, 3) := by decide +kernel
theorem dX9_slows_41 : decode cX9_slows 41 = .ok (.ifCond .ne 6, 3) := by decide +kernel
theorem dX9_slows_44 : decode cX9_slows 44 = .ok (.bipush (-3), 2) := by decide +kernel
theorem dX9_slows_46 : decode cX9_slows 46 = .ok (.ireturn, 1) := by decide +kernel
theorem dX9_slows_47 : decode cX9_slows 47 = .ok (.aload_n 0, 1) := by decide +kernel
theorem dX9_slows_48 : decode cX9_slows 48 = .ok (.getfield 37, 3) := by decide +kernel
theorem dX9_slows_51 : decode cX9_slows 51 = .ok (.aload_n 0, 1) := by decide +kernel
theorem dX9_slows_52 : decode cX9_slows 52 = .ok (.getfield 33, 3) := by decide +kernel
theorem dX9_slows_55 : decode cX9_slows 55 = .ok (.invokevirtual 206, 3) := by decide +kernel
theorem dX9_slows_58 : decode cX9_slows 58 = .ok (.iconst 0, 1) := by decide +kernel
theorem dX9_slows_59 : decode cX9_slows 59 = .ok (.istore 5, 2) := by decide +kernel
theorem dX9_slows_61 : decode cX9_slows 61 = .ok (.iconst 1, 1) := by decide +kernel
theorem dX9_slows_62 : decode cX9_slows 62 = .ok (.aload_n 0, 1) := by decide +kernel
theorem dX9_slows_63 : decode cX9_slows 63 = .ok (.getfield 75, 3) := by decide +kernel
theorem dX9_slows_66 : decode cX9_slows 66 = .ok (.getfield 197, 3) := by decide +kernel
theorem dX9_slows_69 : decode cX9_slows 69 = .ok (.ishl, 1) := by decide +kernel
theorem dX9_slows_70 : decode cX9_slows 70 = .ok (.istore 6, 2) := by decide +kernel
theorem dX9_slows_72 : decode cX9_slows 72 = .ok (.iconst 0, 1) := by decide +kernel
theorem dX9_slows_73 : decode cX9_slows 73 = .ok (.istore 7, 2) := by decide +kernel
theorem dX9_slows_75 : decode cX9_slows 75 = .ok (.iload 7, 2) := by decide +kernel
theorem dX9_slows_77 : decode cX9_slows 77 = .ok (.iload 6, 2) := by decide +kernel
theorem dX9_slows_79 : decode cX9_slows 79 = .ok (.if_icmp .ge 81, 3) := by decide +kernel
theorem dX9_slows_82 : decode cX9_slows 82 = .ok (.aload_n 0, 1) := by decide +kernel
theorem dX9_slows_83 : decode cX9_slows 83 = .ok (.iload 7, 2) := by decide +kernel
theorem dX9_slows_85 : decode cX9_slows 85 = .ok (.iload_n 3, 1) := by decide +kernel
theorem dX9_slows_86 : decode cX9_slows 86 = .ok (.invokevirtual 244, 3) := by decide +kernel
theorem dX9_slows_89 : decode cX9_slows 89 = .ok (.istore 8, 2) := by decide +kernel
theorem dX9_slows_91 : decode cX9_slows 91 = .ok (.iload 8, 2) := by decide +kernel
theorem dX9_slows_93 : decode cX9_slows 93 = .ok (.ifCond .le 61, 3) := by decide +kernel
theorem dX9_slows_96 : decode cX9_slows 96 = .ok (.aload_n 0, 1) := by decide +kernel
theorem dX9_slows_97 : decode cX9_slows 97 = .ok (.iload 7, 2) := by decide +kernel
theorem dX9_slows_99 : decode cX9_slows 99 = .ok (.invokevirtual 247, 3) := by decide +kernel
theorem dX9_slows_102 : decode cX9_slows 102 = .ok (.aload_n 0, 1) := by decide +kernel
theorem dX9_slows_103 : decode cX9_slows 103 = .ok (.getfield 61, 3) := by decide +kernel
theorem dX9_slows_106 : decode cX9_slows 106 = .ok (.aload_n 0, 1) := by decide +kernel
theorem dX9_slows_107 : decode cX9_slows 107 = .ok (.getfield 75, 3) := by decide +kernel
theorem dX9_slows_110 : decode cX9_slows 110 = .ok (.aload_n 0, 1) := by decide +kernel
theorem dX9_slows_111 : decode cX9_slows 111 = .ok (.getfield 37, 3) := by decide +kernel
theorem dX9_slows_114 : decode cX9_slows 114 = .ok (.getfield 120, 3) := by decide +kernel
theorem dX9_slows_117 : decode cX9_slows 117 = .ok (.aload_n 0, 1) := by decide +kernel
theorem dX9_slows_118 : decode cX9_slows 118 = .ok (.getfield 37, 3) := by decide +kernel
theorem dX9_slows_121 : decode cX9_slows 121 = .ok (.getfield 129, 3) := by decide +kernel
theorem dX9_slows_124 : decode cX9_slows 124 = .ok (.iload_n 1, 1) := by decide +kernel
theorem dX9_slows_125 : decode cX9_slows 125 = .ok (.invokevirtual 190, 3) := by decide +kernel
theorem dX9_slows_128 : decode cX9_slows 128 = .ok (.iload 5, 2) := by decide +kernel
theorem dX9_slows_130 : decode cX9_slows 130 = .ok (.aload_n 0, 1) := by decide +kernel
theorem dX9_slows_131 : decode cX9_slows 131 = .ok (.getfield 61, 3) := by decide +kernel
theorem dX9_slows_134 : decode cX9_slows 134 = .ok (.aload_n 0, 1) := by decide +kernel
theorem dX9_slows_135 : decode cX9_slows 135 = .ok (.getfield 75, 3) := by decide +kernel
theorem dX9_slows_138 : decode cX9_slows 138 = .ok (.iload_n 2, 1) := by decide +kernel
theorem dX9_slows_139 : decode cX9_slows 139 = .ok (.invokevirtual 200, 3) := by decide +kernel
theorem dX9_slows_142 : decode cX9_slows 142 = .ok (.ifCond .eq 8, 3) := by decide +kernel
theorem dX9_slows_145 : decode cX9_slows 145 = .ok (.iload 8, 2) := by decide +kernel
theorem dX9_slows_147 : decode cX9_slows 147 = .ok (.goto 4, 3) := by decide +kernel
theorem dX9_slows_150 : decode cX9_slows 150 = .ok (.iconst 0, 1) := by decide +kernel
theorem dX9_slows_151 : decode cX9_slows 151 = .ok (.iadd, 1) := by decide +kernel
theorem dX9_slows_152 : decode cX9_slows 152 = .ok (.istore 5, 2) := by decide +kernel
theorem dX9_slows_154 : decode cX9_slows 154 = .ok (.iinc 7 1, 3) := by decide +kernel
theorem dX9_slows_157 : decode cX9_slows 157 = .ok (.goto (-82), 3) := by decide +kernel
theorem dX9_slows_160 : decode cX9_slows 160 = .ok (.iconst 1, 1) := by decide +kernel
theorem dX9_slows_161 : decode cX9_slows 161 = .ok (.istore 7, 2) := by decide +kernel
theorem dX9_slows_163 : decode cX9_slows 163 = .ok (.iconst 0, 1) := by decide +kernel
theorem dX9_slows_164 : decode cX9_slows 164 = .ok (.istore 8, 2) := by decide +kernel
theorem dX9_slows_166 : decode cX9_slows 166 = .ok (.iload 8, 2) := by decide +kernel
theorem dX9_slows_168 : decode cX9_slows 168 = .ok (.aload_n 0, 1) := by decide +kernel
theorem dX9_slows_169 : decode cX9_slows 169 = .ok (.getfield 75, 3) := by decide +kernel
theorem dX9_slows_172 : decode cX9_slows 172 = .ok (.getfield 197, 3) := by decide +kernel
theorem dX9_slows_175 : decode cX9_slows 175 = .ok (.if_icmp .ge 16, 3) := by decide +kernel
theorem dX9_slows_178 : decode cX9_slows 178 = .ok (.iload 7, 2) := by decide +kernel
theorem dX9_slows_180 : decode cX9_slows 180 = .ok (.bipush 10, 2) := by decide +kernel
theorem dX9_slows_182 : decode cX9_slows 182 = .ok (.imul, 1) := by decide +kernel
theorem dX9_slows_183 : decode cX9_slows 183 = .ok (.istore 7, 2) := by decide +kernel
theorem dX9_slows_185 : decode cX9_slows 185 = .ok (.iinc 8 1, 3) := by decide +kernel
theorem dX9_slows_188 : decode cX9_slows 188 = .ok (.goto (-22), 3) := by decide +kernel
theorem dX9_slows_191 : decode cX9_slows 191 = .ok (.iload 5, 2) := by decide +kernel
theorem dX9_slows_193 : decode cX9_slows 193 = .ok (.iload 7, 2) := by decide +kernel
theorem dX9_slows_195 : decode cX9_slows 195 = .ok (.iload 4, 2) := by decide +kernel
theorem dX9_slows_197 : decode cX9_slows 197 = .ok (.invokestatic 240, 3) := by decide +kernel
theorem dX9_slows_200 : decode cX9_slows 200 = .ok (.ireturn, 1) := by decide +kernel
theorem dX9_seed_0 : decode cX9_seed 0 = .ok (.aload_n 0, 1) := by decide +kernel
theorem dX9_seed_1 : decode cX9_seed 1 = .ok (.getfield 82, 3) := by decide +kernel
theorem dX9_seed_4 : decode cX9_seed 4 = .ok (.lstore_n 3, 1) := by decide +kernel
theorem dX9_seed_5 : decode cX9_seed 5 = .ok (.aload_n 0, 1) := by decide +kernel
theorem dX9_seed_6 : decode cX9_seed 6 = .ok (.lload_n 1, 1) := by decide +kernel
theorem dX9_seed_7 : decode cX9_seed 7 = .ok (.putfield 82, 3) := by decide +kernel
theorem dX9_seed_10 : decode cX9_seed 10 = .ok (.lload_n 3, 1) := by decide +kernel
theorem dX9_seed_11 : decode cX9_seed 11 = .ok (.lreturn, 1) := by decide +kernel
set_option maxRecDepth 20000 in
theorem ggX9_drawn_X2_pairWithin : GoodIn wsX9_drawn wsX2_pairWithin := goodIn_r _ [13, 14, 15, 16, 12, 17, 18, 72, 73, 74, 75, 76, 77, 78, 79, 80, 81, 82] (by decide +kernel) (by decide +kernel)
set_option maxRecDepth 20000 in
theorem gX9_drawn_X2_pairWithin : GoodIn wsX9_drawn (wsV RX9 255 RX2 yX2_pairWithin wsX2_pairWithin) := goodIn_app (goodIn_of _ (by decide +kernel)) ggX9_drawn_X2_pairWithin
set_option maxRecDepth 20000 in
theorem ggX9_drawn_X1_settle : GoodIn wsX9_drawn wsX1_settle := goodIn_r _ [23, 24, 25, 26, 27, 28, 29, 30, 31, 32, 22, 33, 34, 35, 36, 37, 38, 39, 40, 41, 42, 43, 44, 45, 46, 47, 48, 49, 72, 73, 74, 75, 76, 77, 78, 79, 80, 81, 82, 83, 84, 85] (by decide +kernel) (by decide +kernel)
set_option maxRecDepth 20000 in
theorem gX9_drawn_X1_settle : GoodIn wsX9_drawn (wsV RX9 160 RX1 yX1_settle wsX1_settle) := goodIn_app (goodIn_of _ (by decide +kernel)) ggX9_drawn_X1_settle
set_option maxRecDepth 20000 in
theorem ggX9_drawn_X1_howFar : GoodIn wsX9_drawn wsX1_howFar := goodIn_r _ [53, 25, 54, 55, 26, 27, 83, 84, 85, 72, 73, 74, 75, 76, 77, 78, 79, 80, 81, 82] (by decide +kernel) (by decide +kernel)
set_option maxRecDepth 20000 in
theorem gX9_drawn_X1_howFar : GoodIn wsX9_drawn (wsV RX9 167 RX1 yX1_howFar wsX1_howFar) := goodIn_app (goodIn_of _ (by decide +kernel)) ggX9_drawn_X1_howFar
theorem dX9_drawn_0 : decode cX9_drawn 0 = .ok (.iload_n 1, 1) := by decide +kernel
theorem dX9_drawn_1 : decode cX9_drawn 1 = .ok (.iconst 1, 1) := by decide +kernel
theorem dX9_drawn_2 : decode cX9_drawn 2 = .ok (.if_icmp .lt 9, 3) := by decide +kernel
theorem dX9_drawn_5 : decode cX9_drawn 5 = .ok (.iload_n 1, 1) := by decide +kernel
theorem dX9_drawn_6 : decode cX9_drawn 6 = .ok (.bipush 20, 2) := by decide +kernel
theorem dX9_drawn_8 : decode cX9_drawn 8 = .ok (.if_icmp .le 6, 3) := by decide +kernel
theorem dX9_drawn_11 : decode cX9_drawn 11 = .ok (.bipush (-2), 2) := by decide +kernel
theorem dX9_drawn_13 : decode cX9_drawn 13 = .ok (.ireturn, 1) := by decide +kernel
theorem dX9_drawn_14 : decode cX9_drawn 14 = .ok (.iconst 0, 1) := by decide +kernel
theorem dX9_drawn_15 : decode cX9_drawn 15 = .ok (.istore_n 2, 1) := by decide +kernel
theorem dX9_drawn_16 : decode cX9_drawn 16 = .ok (.iconst 0, 1) := by decide +kernel
theorem dX9_drawn_17 : decode cX9_drawn 17 = .ok (.istore_n 3, 1) := by decide +kernel
theorem dX9_drawn_18 : decode cX9_drawn 18 = .ok (.iload_n 3, 1) := by decide +kernel
theorem dX9_drawn_19 : decode cX9_drawn 19 = .ok (.iload_n 1, 1) := by decide +kernel
theorem dX9_drawn_20 : decode cX9_drawn 20 = .ok (.if_icmp .ge 122, 3) := by decide +kernel
theorem dX9_drawn_23 : decode cX9_drawn 23 = .ok (.aload_n 0, 1) := by decide +kernel
theorem dX9_drawn_24 : decode cX9_drawn 24 = .ok (.aload_n 0, 1) := by decide +kernel
theorem dX9_drawn_25 : decode cX9_drawn 25 = .ok (.getfield 82, 3) := by decide +kernel
theorem dX9_drawn_28 : decode cX9_drawn 28 = .ok (.ldc2_w 251, 3) := by decide +kernel
theorem dX9_drawn_31 : decode cX9_drawn 31 = .ok (.lmul, 1) := by decide +kernel
theorem dX9_drawn_32 : decode cX9_drawn 32 = .ok (.ldc2_w 253, 3) := by decide +kernel
theorem dX9_drawn_35 : decode cX9_drawn 35 = .ok (.ladd, 1) := by decide +kernel
theorem dX9_drawn_36 : decode cX9_drawn 36 = .ok (.putfield 82, 3) := by decide +kernel
theorem dX9_drawn_39 : decode cX9_drawn 39 = .ok (.aload_n 0, 1) := by decide +kernel
theorem dX9_drawn_40 : decode cX9_drawn 40 = .ok (.getfield 82, 3) := by decide +kernel
theorem dX9_drawn_43 : decode cX9_drawn 43 = .ok (.bipush 33, 2) := by decide +kernel
theorem dX9_drawn_45 : decode cX9_drawn 45 = .ok (.lushr, 1) := by decide +kernel
theorem dX9_drawn_46 : decode cX9_drawn 46 = .ok (.l2i, 1) := by decide +kernel
theorem dX9_drawn_47 : decode cX9_drawn 47 = .ok (.istore 4, 2) := by decide +kernel
theorem dX9_drawn_49 : decode cX9_drawn 49 = .ok (.iload 4, 2) := by decide +kernel
theorem dX9_drawn_51 : decode cX9_drawn 51 = .ok (.bipush 16, 2) := by decide +kernel
theorem dX9_drawn_53 : decode cX9_drawn 53 = .ok (.irem, 1) := by decide +kernel
theorem dX9_drawn_54 : decode cX9_drawn 54 = .ok (.istore 5, 2) := by decide +kernel
theorem dX9_drawn_56 : decode cX9_drawn 56 = .ok (.iload 4, 2) := by decide +kernel
theorem dX9_drawn_58 : decode cX9_drawn 58 = .ok (.bipush 16, 2) := by decide +kernel
theorem dX9_drawn_60 : decode cX9_drawn 60 = .ok (.idiv, 1) := by decide +kernel
theorem dX9_drawn_61 : decode cX9_drawn 61 = .ok (.bipush 16, 2) := by decide +kernel
theorem dX9_drawn_63 : decode cX9_drawn 63 = .ok (.irem, 1) := by decide +kernel
theorem dX9_drawn_64 : decode cX9_drawn 64 = .ok (.istore 6, 2) := by decide +kernel
theorem dX9_drawn_66 : decode cX9_drawn 66 = .ok (.aload_n 0, 1) := by decide +kernel
theorem dX9_drawn_67 : decode cX9_drawn 67 = .ok (.getfield 47, 3) := by decide +kernel
theorem dX9_drawn_70 : decode cX9_drawn 70 = .ok (.aload_n 0, 1) := by decide +kernel
theorem dX9_drawn_71 : decode cX9_drawn 71 = .ok (.getfield 75, 3) := by decide +kernel
theorem dX9_drawn_74 : decode cX9_drawn 74 = .ok (.aload_n 0, 1) := by decide +kernel
theorem dX9_drawn_75 : decode cX9_drawn 75 = .ok (.getfield 33, 3) := by decide +kernel
theorem dX9_drawn_78 : decode cX9_drawn 78 = .ok (.getfield 120, 3) := by decide +kernel
theorem dX9_drawn_81 : decode cX9_drawn 81 = .ok (.aload_n 0, 1) := by decide +kernel
theorem dX9_drawn_82 : decode cX9_drawn 82 = .ok (.getfield 75, 3) := by decide +kernel
theorem dX9_drawn_85 : decode cX9_drawn 85 = .ok (.iload 5, 2) := by decide +kernel
theorem dX9_drawn_87 : decode cX9_drawn 87 = .ok (.bipush 16, 2) := by decide +kernel
theorem dX9_drawn_89 : decode cX9_drawn 89 = .ok (.imul, 1) := by decide +kernel
theorem dX9_drawn_90 : decode cX9_drawn 90 = .ok (.iload 6, 2) := by decide +kernel
theorem dX9_drawn_92 : decode cX9_drawn 92 = .ok (.iadd, 1) := by decide +kernel
theorem dX9_drawn_93 : decode cX9_drawn 93 = .ok (.invokevirtual 255, 3) := by decide +kernel
theorem dX9_drawn_96 : decode cX9_drawn 96 = .ok (.invokevirtual 160, 3) := by decide +kernel
theorem dX9_drawn_99 : decode cX9_drawn 99 = .ok (.iconst 0, 1) := by decide +kernel
theorem dX9_drawn_100 : decode cX9_drawn 100 = .ok (.istore 7, 2) := by decide +kernel
theorem dX9_drawn_102 : decode cX9_drawn 102 = .ok (.iload 7, 2) := by decide +kernel
theorem dX9_drawn_104 : decode cX9_drawn 104 = .ok (.aload_n 0, 1) := by decide +kernel
theorem dX9_drawn_105 : decode cX9_drawn 105 = .ok (.getfield 75, 3) := by decide +kernel
theorem dX9_drawn_108 : decode cX9_drawn 108 = .ok (.getfield 113, 3) := by decide +kernel
theorem dX9_drawn_111 : decode cX9_drawn 111 = .ok (.if_icmp .ge 25, 3) := by decide +kernel
theorem dX9_drawn_114 : decode cX9_drawn 114 = .ok (.iload_n 2, 1) := by decide +kernel
theorem dX9_drawn_115 : decode cX9_drawn 115 = .ok (.aload_n 0, 1) := by decide +kernel
theorem dX9_drawn_116 : decode cX9_drawn 116 = .ok (.getfield 47, 3) := by decide +kernel
theorem dX9_drawn_119 : decode cX9_drawn 119 = .ok (.aload_n 0, 1) := by decide +kernel
theorem dX9_drawn_120 : decode cX9_drawn 120 = .ok (.getfield 75, 3) := by decide +kernel
theorem dX9_drawn_123 : decode cX9_drawn 123 = .ok (.iload 7, 2) := by decide +kernel
theorem dX9_drawn_125 : decode cX9_drawn 125 = .ok (.invokevirtual 167, 3) := by decide +kernel
theorem dX9_drawn_128 : decode cX9_drawn 128 = .ok (.iadd, 1) := by decide +kernel
theorem dX9_drawn_129 : decode cX9_drawn 129 = .ok (.istore_n 2, 1) := by decide +kernel
theorem dX9_drawn_130 : decode cX9_drawn 130 = .ok (.iinc 7 1, 3) := by decide +kernel
theorem dX9_drawn_133 : decode cX9_drawn 133 = .ok (.goto (-31), 3) := by decide +kernel
theorem dX9_drawn_136 : decode cX9_drawn 136 = .ok (.iinc 3 1, 3) := by decide +kernel
theorem dX9_drawn_139 : decode cX9_drawn 139 = .ok (.goto (-121), 3) := by decide +kernel
theorem dX9_drawn_142 : decode cX9_drawn 142 = .ok (.iload_n 2, 1) := by decide +kernel
theorem dX9_drawn_143 : decode cX9_drawn 143 = .ok (.ireturn, 1) := by decide +kernel
set_option maxRecDepth 20000 in
theorem ggX9_keep_X5_copyFrom : GoodIn wsX9_keep wsX5_copyFrom := goodIn_r _ [10, 11, 12, 26, 27, 28] (by decide +kernel) (by decide +kernel)
set_option maxRecDepth 20000 in
theorem gX9_keep_X5_copyFrom : GoodIn wsX9_keep (wsV RX9 206 RX5 yX5_copyFrom wsX5_copyFrom) := goodIn_app (goodIn_of _ (by decide +kernel)) ggX9_keep_X5_copyFrom
theorem dX9_keep_0 : decode cX9_keep 0 = .ok (.iload_n 1, 1) := by decide +kernel
theorem dX9_keep_1 : decode cX9_keep 1 = .ok (.ifCond .lt 8, 3) := by decide +kernel
theorem dX9_keep_4 : decode cX9_keep 4 = .ok (.iload_n 1, 1) := by decide +kernel
theorem dX9_keep_5 : decode cX9_keep 5 = .ok (.iconst 2, 1) := by decide +kernel
theorem dX9_keep_6 : decode cX9_keep 6 = .ok (.if_icmp .lt 5, 3) := by decide +kernel
theorem dX9_keep_9 : decode cX9_keep 9 = .ok (.iconst (-1), 1) := by decide +kernel
theorem dX9_keep_10 : decode cX9_keep 10 = .ok (.ireturn, 1) := by decide +kernel
theorem dX9_keep_11 : decode cX9_keep 11 = .ok (.aload_n 0, 1) := by decide +kernel
theorem dX9_keep_12 : decode cX9_keep 12 = .ok (.getfield 40, 3) := by decide +kernel
theorem dX9_keep_15 : decode cX9_keep 15 = .ok (.iload_n 1, 1) := by decide +kernel
theorem dX9_keep_16 : decode cX9_keep 16 = .ok (.aaload, 1) := by decide +kernel
theorem dX9_keep_17 : decode cX9_keep 17 = .ok (.aload_n 0, 1) := by decide +kernel
theorem dX9_keep_18 : decode cX9_keep 18 = .ok (.getfield 33, 3) := by decide +kernel
theorem dX9_keep_21 : decode cX9_keep 21 = .ok (.invokevirtual 206, 3) := by decide +kernel
theorem dX9_keep_24 : decode cX9_keep 24 = .ok (.aload_n 0, 1) := by decide +kernel
theorem dX9_keep_25 : decode cX9_keep 25 = .ok (.getfield 40, 3) := by decide +kernel
theorem dX9_keep_28 : decode cX9_keep 28 = .ok (.iload_n 1, 1) := by decide +kernel
theorem dX9_keep_29 : decode cX9_keep 29 = .ok (.aaload, 1) := by decide +kernel
theorem dX9_keep_30 : decode cX9_keep 30 = .ok (.iconst 1, 1) := by decide +kernel
theorem dX9_keep_31 : decode cX9_keep 31 = .ok (.putfield 109, 3) := by decide +kernel
theorem dX9_keep_34 : decode cX9_keep 34 = .ok (.aload_n 0, 1) := by decide +kernel
theorem dX9_keep_35 : decode cX9_keep 35 = .ok (.getfield 75, 3) := by decide +kernel
theorem dX9_keep_38 : decode cX9_keep 38 = .ok (.getfield 197, 3) := by decide +kernel
theorem dX9_keep_41 : decode cX9_keep 41 = .ok (.ireturn, 1) := by decide +kernel
set_option maxRecDepth 20000 in
theorem ggX9_again_X5_copyFrom : GoodIn wsX9_again wsX5_copyFrom := goodIn_r _ [12, 13, 14, 28, 29, 30] (by decide +kernel) (by decide +kernel)
set_option maxRecDepth 20000 in
theorem gX9_again_X5_copyFrom : GoodIn wsX9_again (wsV RX9 206 RX5 yX5_copyFrom wsX5_copyFrom) := goodIn_app (goodIn_of _ (by decide +kernel)) ggX9_again_X5_copyFrom
theorem dX9_again_0 : decode cX9_again 0 = .ok (.iload_n 1, 1) := by decide +kernel
theorem dX9_again_1 : decode cX9_again 1 = .ok (.ifCond .lt 8, 3) := by decide +kernel
theorem dX9_again_4 : decode cX9_again 4 = .ok (.iload_n 1, 1) := by decide +kernel
theorem dX9_again_5 : decode cX9_again 5 = .ok (.iconst 2, 1) := by decide +kernel
theorem dX9_again_6 : decode cX9_again 6 = .ok (.if_icmp .lt 5, 3) := by decide +kernel
theorem dX9_again_9 : decode cX9_again 9 = .ok (.iconst (-1), 1) := by decide +kernel
theorem dX9_again_10 : decode cX9_again 10 = .ok (.ireturn, 1) := by decide +kernel
theorem dX9_again_11 : decode cX9_again 11 = .ok (.aload_n 0, 1) := by decide +kernel
theorem dX9_again_12 : decode cX9_again 12 = .ok (.getfield 40, 3) := by decide +kernel
theorem dX9_again_15 : decode cX9_again 15 = .ok (.iload_n 1, 1) := by decide +kernel
theorem dX9_again_16 : decode cX9_again 16 = .ok (.aaload, 1) := by decide +kernel
theorem dX9_again_17 : decode cX9_again 17 = .ok (.getfield 109, 3) := by decide +kernel
theorem dX9_again_20 : decode cX9_again 20 = .ok (.ifCond .ne 6, 3) := by decide +kernel
theorem dX9_again_23 : decode cX9_again 23 = .ok (.bipush (-3), 2) := by decide +kernel
theorem dX9_again_25 : decode cX9_again 25 = .ok (.ireturn, 1) := by decide +kernel
theorem dX9_again_26 : decode cX9_again 26 = .ok (.aload_n 0, 1) := by decide +kernel
theorem dX9_again_27 : decode cX9_again 27 = .ok (.getfield 33, 3) := by decide +kernel
theorem dX9_again_30 : decode cX9_again 30 = .ok (.aload_n 0, 1) := by decide +kernel
theorem dX9_again_31 : decode cX9_again 31 = .ok (.getfield 40, 3) := by decide +kernel
theorem dX9_again_34 : decode cX9_again 34 = .ok (.iload_n 1, 1) := by decide +kernel
theorem dX9_again_35 : decode cX9_again 35 = .ok (.aaload, 1) := by decide +kernel
theorem dX9_again_36 : decode cX9_again 36 = .ok (.invokevirtual 206, 3) := by decide +kernel
theorem dX9_again_39 : decode cX9_again 39 = .ok (.aload_n 0, 1) := by decide +kernel
theorem dX9_again_40 : decode cX9_again 40 = .ok (.getfield 19, 3) := by decide +kernel
theorem dX9_again_43 : decode cX9_again 43 = .ok (.iconst 0, 1) := by decide +kernel
theorem dX9_again_44 : decode cX9_again 44 = .ok (.putfield 105, 3) := by decide +kernel
theorem dX9_again_47 : decode cX9_again 47 = .ok (.aload_n 0, 1) := by decide +kernel
theorem dX9_again_48 : decode cX9_again 48 = .ok (.getfield 75, 3) := by decide +kernel
theorem dX9_again_51 : decode cX9_again 51 = .ok (.getfield 197, 3) := by decide +kernel
theorem dX9_again_54 : decode cX9_again 54 = .ok (.ireturn, 1) := by decide +kernel
set_option maxRecDepth 20000 in
theorem ggX9_count_X3_fitTo : GoodIn wsX9_count wsX3_fitTo := goodIn_r _ [19, 20, 21, 22, 23, 24, 18, 25, 26, 27, 28, 29, 30, 31, 32, 33, 34, 35, 36, 37, 38, 39, 40, 41, 42, 43, 44, 45, 46, 47, 48, 49, 50, 51, 52, 53, 54, 55, 56, 57, 58, 59, 60, 61, 62, 63, 64, 65, 66, 67, 68, 69, 70, 71, 72, 73, 74, 75, 76, 77, 78, 79, 80, 81, 82, 83, 84, 85, 86, 87, 88, 89, 90, 125, 126, 127, 128, 129, 130, 131, 132, 133, 134, 135, 147, 148, 149, 150, 151, 152, 153, 154, 155] (by decide +kernel) (by decide +kernel)
set_option maxRecDepth 20000 in
theorem gX9_count_X3_fitTo : GoodIn wsX9_count (wsV RX9 171 RX3 yX3_fitTo wsX3_fitTo) := goodIn_app (goodIn_of _ (by decide +kernel)) ggX9_count_X3_fitTo
set_option maxRecDepth 20000 in
theorem ggX9_count_X3_provenPaths : GoodIn wsX9_count wsX3_provenPaths := goodIn_r _ [94, 27, 28, 95, 96, 97, 98, 99, 100, 101, 147, 148, 149, 150, 151, 152] (by decide +kernel) (by decide +kernel)
set_option maxRecDepth 20000 in
theorem gX9_count_X3_provenPaths : GoodIn wsX9_count (wsV RX9 261 RX3 yX3_provenPaths wsX3_provenPaths) := goodIn_app (goodIn_of _ (by decide +kernel)) ggX9_count_X3_provenPaths
set_option maxRecDepth 20000 in
theorem ggX9_count_X5_delaysTogether : GoodIn wsX9_count wsX5_delaysTogether := goodIn_r _ [106, 107, 108, 125, 126, 127, 128, 129, 130, 131, 132, 133, 134, 135, 136, 137, 138] (by decide +kernel) (by decide +kernel)
set_option maxRecDepth 20000 in
theorem gX9_count_X5_delaysTogether : GoodIn wsX9_count (wsV RX9 265 RX5 yX5_delaysTogether wsX5_delaysTogether) := goodIn_app (goodIn_of _ (by decide +kernel)) ggX9_count_X5_delaysTogether
theorem dX9_count_0 : decode cX9_count 0 = .ok (.iload_n 1, 1) := by decide +kernel
theorem dX9_count_1 : decode cX9_count 1 = .ok (.tableswitch 181 0 11 #[63, 71, 79, 87, 95, 121, 133, 141, 149, 149, 149, 149], 63) := by decide +kernel
theorem dX9_count_64 : decode cX9_count 64 = .ok (.aload_n 0, 1) := by decide +kernel
theorem dX9_count_65 : decode cX9_count 65 = .ok (.getfield 12, 3) := by decide +kernel
theorem dX9_count_68 : decode cX9_count 68 = .ok (.getfield 86, 3) := by decide +kernel
theorem dX9_count_71 : decode cX9_count 71 = .ok (.ireturn, 1) := by decide +kernel
theorem dX9_count_72 : decode cX9_count 72 = .ok (.aload_n 0, 1) := by decide +kernel
theorem dX9_count_73 : decode cX9_count 73 = .ok (.getfield 75, 3) := by decide +kernel
theorem dX9_count_76 : decode cX9_count 76 = .ok (.getfield 258, 3) := by decide +kernel
theorem dX9_count_79 : decode cX9_count 79 = .ok (.ireturn, 1) := by decide +kernel
theorem dX9_count_80 : decode cX9_count 80 = .ok (.aload_n 0, 1) := by decide +kernel
theorem dX9_count_81 : decode cX9_count 81 = .ok (.getfield 75, 3) := by decide +kernel
theorem dX9_count_84 : decode cX9_count 84 = .ok (.getfield 197, 3) := by decide +kernel
theorem dX9_count_87 : decode cX9_count 87 = .ok (.ireturn, 1) := by decide +kernel
theorem dX9_count_88 : decode cX9_count 88 = .ok (.aload_n 0, 1) := by decide +kernel
theorem dX9_count_89 : decode cX9_count 89 = .ok (.getfield 75, 3) := by decide +kernel
theorem dX9_count_92 : decode cX9_count 92 = .ok (.getfield 113, 3) := by decide +kernel
theorem dX9_count_95 : decode cX9_count 95 = .ok (.ireturn, 1) := by decide +kernel
theorem dX9_count_96 : decode cX9_count 96 = .ok (.aload_n 0, 1) := by decide +kernel
theorem dX9_count_97 : decode cX9_count 97 = .ok (.getfield 54, 3) := by decide +kernel
theorem dX9_count_100 : decode cX9_count 100 = .ok (.aload_n 0, 1) := by decide +kernel
theorem dX9_count_101 : decode cX9_count 101 = .ok (.getfield 75, 3) := by decide +kernel
theorem dX9_count_104 : decode cX9_count 104 = .ok (.aload_n 0, 1) := by decide +kernel
theorem dX9_count_105 : decode cX9_count 105 = .ok (.getfield 33, 3) := by decide +kernel
theorem dX9_count_108 : decode cX9_count 108 = .ok (.getfield 120, 3) := by decide +kernel
theorem dX9_count_111 : decode cX9_count 111 = .ok (.invokevirtual 171, 3) := by decide +kernel
theorem dX9_count_114 : decode cX9_count 114 = .ok (.aload_n 0, 1) := by decide +kernel
theorem dX9_count_115 : decode cX9_count 115 = .ok (.getfield 54, 3) := by decide +kernel
theorem dX9_count_118 : decode cX9_count 118 = .ok (.invokevirtual 261, 3) := by decide +kernel
theorem dX9_count_121 : decode cX9_count 121 = .ok (.ireturn, 1) := by decide +kernel
theorem dX9_count_122 : decode cX9_count 122 = .ok (.aload_n 0, 1) := by decide +kernel
theorem dX9_count_123 : decode cX9_count 123 = .ok (.getfield 33, 3) := by decide +kernel
theorem dX9_count_126 : decode cX9_count 126 = .ok (.aload_n 0, 1) := by decide +kernel
theorem dX9_count_127 : decode cX9_count 127 = .ok (.getfield 75, 3) := by decide +kernel
theorem dX9_count_130 : decode cX9_count 130 = .ok (.invokevirtual 265, 3) := by decide +kernel
theorem dX9_count_133 : decode cX9_count 133 = .ok (.ireturn, 1) := by decide +kernel
theorem dX9_count_134 : decode cX9_count 134 = .ok (.aload_n 0, 1) := by decide +kernel
theorem dX9_count_135 : decode cX9_count 135 = .ok (.getfield 19, 3) := by decide +kernel
theorem dX9_count_138 : decode cX9_count 138 = .ok (.getfield 105, 3) := by decide +kernel
theorem dX9_count_141 : decode cX9_count 141 = .ok (.ireturn, 1) := by decide +kernel
theorem dX9_count_142 : decode cX9_count 142 = .ok (.aload_n 0, 1) := by decide +kernel
theorem dX9_count_143 : decode cX9_count 143 = .ok (.getfield 26, 3) := by decide +kernel
theorem dX9_count_146 : decode cX9_count 146 = .ok (.getfield 219, 3) := by decide +kernel
theorem dX9_count_149 : decode cX9_count 149 = .ok (.ireturn, 1) := by decide +kernel
theorem dX9_count_150 : decode cX9_count 150 = .ok (.iload_n 1, 1) := by decide +kernel
theorem dX9_count_151 : decode cX9_count 151 = .ok (.bipush 8, 2) := by decide +kernel
theorem dX9_count_153 : decode cX9_count 153 = .ok (.isub, 1) := by decide +kernel
theorem dX9_count_154 : decode cX9_count 154 = .ok (.aload_n 0, 1) := by decide +kernel
theorem dX9_count_155 : decode cX9_count 155 = .ok (.getfield 75, 3) := by decide +kernel
theorem dX9_count_158 : decode cX9_count 158 = .ok (.getfield 258, 3) := by decide +kernel
theorem dX9_count_161 : decode cX9_count 161 = .ok (.if_icmp .ge 18, 3) := by decide +kernel
theorem dX9_count_164 : decode cX9_count 164 = .ok (.aload_n 0, 1) := by decide +kernel
theorem dX9_count_165 : decode cX9_count 165 = .ok (.getfield 75, 3) := by decide +kernel
theorem dX9_count_168 : decode cX9_count 168 = .ok (.getfield 268, 3) := by decide +kernel
theorem dX9_count_171 : decode cX9_count 171 = .ok (.iload_n 1, 1) := by decide +kernel
theorem dX9_count_172 : decode cX9_count 172 = .ok (.bipush 8, 2) := by decide +kernel
theorem dX9_count_174 : decode cX9_count 174 = .ok (.isub, 1) := by decide +kernel
theorem dX9_count_175 : decode cX9_count 175 = .ok (.iaload, 1) := by decide +kernel
theorem dX9_count_176 : decode cX9_count 176 = .ok (.goto 5, 3) := by decide +kernel
theorem dX9_count_179 : decode cX9_count 179 = .ok (.bipush (-9), 2) := by decide +kernel
theorem dX9_count_181 : decode cX9_count 181 = .ok (.ireturn, 1) := by decide +kernel
theorem dX9_count_182 : decode cX9_count 182 = .ok (.bipush (-2), 2) := by decide +kernel
theorem dX9_count_184 : decode cX9_count 184 = .ok (.ireturn, 1) := by decide +kernel
set_option maxRecDepth 20000 in
theorem ggX9_canBe_X9_triesDelay : GoodIn wsX9_canBe wsX9_triesDelay := goodIn_r _ [10, 1, 2, 3, 11, 12, 13, 14, 15, 16, 143, 144, 145, 146, 147, 148, 149, 150, 151, 152, 153, 154, 155, 156, 157, 158, 159, 160, 161, 162, 163, 164, 165, 166, 167, 168, 169] (by decide +kernel) (by decide +kernel)
set_option maxRecDepth 20000 in
theorem gX9_canBe_X9_triesDelay : GoodIn wsX9_canBe (wsV RX9 271 RX9 yX9_triesDelay wsX9_triesDelay) := goodIn_app (goodIn_of _ (by decide +kernel)) ggX9_canBe_X9_triesDelay
set_option maxRecDepth 20000 in
theorem ggX9_canBe_X9_triesKind : GoodIn wsX9_canBe wsX9_triesKind := goodIn_r _ [20, 1, 2, 5, 11, 12, 13, 14, 15, 16, 143, 144, 145, 146, 147, 148, 149, 150, 151, 152, 153, 154, 155, 156, 157, 158, 159, 160, 161, 162, 163, 164, 165, 166, 167, 168, 169] (by decide +kernel) (by decide +kernel)
set_option maxRecDepth 20000 in
theorem gX9_canBe_X9_triesKind : GoodIn wsX9_canBe (wsV RX9 275 RX9 yX9_triesKind wsX9_triesKind) := goodIn_app (goodIn_of _ (by decide +kernel)) ggX9_canBe_X9_triesKind
set_option maxRecDepth 20000 in
theorem ggX9_canBe_X2_hasPath : GoodIn wsX9_canBe wsX2_hasPath := goodIn_r _ [24, 25, 159, 160, 161, 162, 163, 164, 165, 166, 167, 168, 169] (by decide +kernel) (by decide +kernel)
set_option maxRecDepth 20000 in
theorem gX9_canBe_X2_hasPath : GoodIn wsX9_canBe (wsV RX9 140 RX2 yX2_hasPath wsX2_hasPath) := goodIn_app (goodIn_of _ (by decide +kernel)) ggX9_canBe_X2_hasPath
set_option maxRecDepth 20000 in
theorem ggX9_canBe_X2_lengthOf : GoodIn wsX9_canBe wsX2_lengthOf := goodIn_r _ [29, 30, 31, 159, 160, 161, 162, 163, 164, 165, 166, 167, 168, 169] (by decide +kernel) (by decide +kernel)
set_option maxRecDepth 20000 in
theorem gX9_canBe_X2_lengthOf : GoodIn wsX9_canBe (wsV RX9 149 RX2 yX2_lengthOf wsX2_lengthOf) := goodIn_app (goodIn_of _ (by decide +kernel)) ggX9_canBe_X2_lengthOf
set_option maxRecDepth 20000 in
theorem ggX9_canBe_X9_pathsAsLong : GoodIn wsX9_canBe wsX9_pathsAsLong := goodIn_r _ [35, 1, 36, 2, 3, 26, 27, 28, 14, 29, 30, 31, 143, 144, 145, 146, 147, 148, 149, 150, 151, 152, 153, 154, 155, 159, 160, 161, 162, 163, 164, 165, 166, 167, 168, 169, 156, 157, 158] (by decide +kernel) (by decide +kernel)
set_option maxRecDepth 20000 in
theorem gX9_canBe_X9_pathsAsLong : GoodIn wsX9_canBe (wsV RX9 278 RX9 yX9_pathsAsLong wsX9_pathsAsLong) := goodIn_app (goodIn_of _ (by decide +kernel)) ggX9_canBe_X9_pathsAsLong
set_option maxRecDepth 20000 in
theorem ggX9_canBe_X3_fitTo : GoodIn wsX9_canBe wsX3_fitTo := goodIn_r _ [41, 42, 43, 44, 45, 46, 40, 47, 48, 49, 50, 51, 52, 53, 54, 55, 56, 57, 58, 59, 14, 60, 61, 62, 63, 64, 65, 66, 67, 68, 69, 70, 71, 72, 73, 74, 75, 76, 77, 78, 79, 80, 81, 82, 83, 84, 85, 86, 87, 88, 89, 90, 91, 92, 93, 94, 95, 96, 97, 98, 99, 100, 101, 102, 103, 104, 105, 106, 107, 108, 109, 110, 111, 159, 160, 161, 162, 163, 164, 165, 166, 167, 168, 169, 170, 171, 172, 173, 174, 175, 176, 177, 178] (by decide +kernel) (by decide +kernel)
set_option maxRecDepth 20000 in
theorem gX9_canBe_X3_fitTo : GoodIn wsX9_canBe (wsV RX9 171 RX3 yX3_fitTo wsX3_fitTo) := goodIn_app (goodIn_of _ (by decide +kernel)) ggX9_canBe_X3_fitTo
set_option maxRecDepth 20000 in
theorem ggX9_canBe_X3_canProve : GoodIn wsX9_canBe wsX3_canProve := goodIn_r _ [115, 116, 117, 118, 40, 119, 49, 50, 170, 171, 172, 173, 174, 175] (by decide +kernel) (by decide +kernel)
set_option maxRecDepth 20000 in
theorem gX9_canBe_X3_canProve : GoodIn wsX9_canBe (wsV RX9 281 RX3 yX3_canProve wsX3_canProve) := goodIn_app (goodIn_of _ (by decide +kernel)) ggX9_canBe_X3_canProve
set_option maxRecDepth 20000 in
theorem ggX9_canBe_X3_deadBeginnings : GoodIn wsX9_canBe wsX3_deadBeginnings := goodIn_r _ [123, 53, 124, 125, 126, 127, 40, 128, 55, 129, 130, 131, 132, 133, 134, 14, 135, 31, 136, 101, 102, 103, 104, 48, 137, 138, 139, 140, 141, 30, 142, 159, 160, 161, 162, 163, 164, 165, 166, 167, 168, 169, 170, 171, 172, 173, 174, 175] (by decide +kernel) (by decide +kernel)
set_option maxRecDepth 20000 in
theorem gX9_canBe_X3_deadBeginnings : GoodIn wsX9_canBe (wsV RX9 183 RX3 yX3_deadBeginnings wsX3_deadBeginnings) := goodIn_app (goodIn_of _ (by decide +kernel)) ggX9_canBe_X3_deadBeginnings
theorem dX9_canBe_0 : decode cX9_canBe 0 = .ok (.iload_n 1, 1) := by decide +kernel
theorem dX9_canBe_1 : decode cX9_canBe 1 = .ok (.bipush 10, 2) := by decide +kernel
theorem dX9_canBe_3 : decode cX9_canBe 3 = .ok (.idiv, 1) := by decide +kernel
theorem dX9_canBe_4 : decode cX9_canBe 4 = .ok (.bipush 100, 2) := by decide +kernel
theorem dX9_canBe_6 : decode cX9_canBe 6 = .ok (.irem, 1) := by decide +kernel
theorem dX9_canBe_7 : decode cX9_canBe 7 = .ok (.istore_n 2, 1) := by decide +kernel
theorem dX9_canBe_8 : decode cX9_canBe 8 = .ok (.iload_n 1, 1) := by decide +kernel
theorem dX9_canBe_9 : decode cX9_canBe 9 = .ok (.bipush 10, 2) := by decide +kernel
theorem dX9_canBe_11 : decode cX9_canBe 11 = .ok (.irem, 1) := by decide +kernel
theorem dX9_canBe_12 : decode cX9_canBe 12 = .ok (.istore_n 3, 1) := by decide +kernel
theorem dX9_canBe_13 : decode cX9_canBe 13 = .ok (.iload_n 1, 1) := by decide +kernel
theorem dX9_canBe_14 : decode cX9_canBe 14 = .ok (.sipush 1000, 3) := by decide +kernel
theorem dX9_canBe_17 : decode cX9_canBe 17 = .ok (.idiv, 1) := by decide +kernel
theorem dX9_canBe_18 : decode cX9_canBe 18 = .ok (.tableswitch 240 1 6 #[38, 63, 88, 124, 139, 191], 38) := by decide +kernel
theorem dX9_canBe_56 : decode cX9_canBe 56 = .ok (.iload_n 2, 1) := by decide +kernel
theorem dX9_canBe_57 : decode cX9_canBe 57 = .ok (.bipush 10, 2) := by decide +kernel
theorem dX9_canBe_59 : decode cX9_canBe 59 = .ok (.irem, 1) := by decide +kernel
theorem dX9_canBe_60 : decode cX9_canBe 60 = .ok (.ifCond .ne 19, 3) := by decide +kernel
theorem dX9_canBe_63 : decode cX9_canBe 63 = .ok (.aload_n 0, 1) := by decide +kernel
theorem dX9_canBe_64 : decode cX9_canBe 64 = .ok (.iload_n 2, 1) := by decide +kernel
theorem dX9_canBe_65 : decode cX9_canBe 65 = .ok (.bipush 10, 2) := by decide +kernel
theorem dX9_canBe_67 : decode cX9_canBe 67 = .ok (.idiv, 1) := by decide +kernel
theorem dX9_canBe_68 : decode cX9_canBe 68 = .ok (.iload_n 3, 1) := by decide +kernel
theorem dX9_canBe_69 : decode cX9_canBe 69 = .ok (.invokevirtual 271, 3) := by decide +kernel
theorem dX9_canBe_72 : decode cX9_canBe 72 = .ok (.ifCond .eq 7, 3) := by decide +kernel
theorem dX9_canBe_75 : decode cX9_canBe 75 = .ok (.iconst 1, 1) := by decide +kernel
theorem dX9_canBe_76 : decode cX9_canBe 76 = .ok (.goto 4, 3) := by decide +kernel
theorem dX9_canBe_79 : decode cX9_canBe 79 = .ok (.iconst 0, 1) := by decide +kernel
theorem dX9_canBe_80 : decode cX9_canBe 80 = .ok (.ireturn, 1) := by decide +kernel
theorem dX9_canBe_81 : decode cX9_canBe 81 = .ok (.iload_n 2, 1) := by decide +kernel
theorem dX9_canBe_82 : decode cX9_canBe 82 = .ok (.bipush 10, 2) := by decide +kernel
theorem dX9_canBe_84 : decode cX9_canBe 84 = .ok (.irem, 1) := by decide +kernel
theorem dX9_canBe_85 : decode cX9_canBe 85 = .ok (.ifCond .ne 19, 3) := by decide +kernel
theorem dX9_canBe_88 : decode cX9_canBe 88 = .ok (.aload_n 0, 1) := by decide +kernel
theorem dX9_canBe_89 : decode cX9_canBe 89 = .ok (.iload_n 2, 1) := by decide +kernel
theorem dX9_canBe_90 : decode cX9_canBe 90 = .ok (.bipush 10, 2) := by decide +kernel
theorem dX9_canBe_92 : decode cX9_canBe 92 = .ok (.idiv, 1) := by decide +kernel
theorem dX9_canBe_93 : decode cX9_canBe 93 = .ok (.iload_n 3, 1) := by decide +kernel
theorem dX9_canBe_94 : decode cX9_canBe 94 = .ok (.invokevirtual 275, 3) := by decide +kernel
theorem dX9_canBe_97 : decode cX9_canBe 97 = .ok (.ifCond .eq 7, 3) := by decide +kernel
theorem dX9_canBe_100 : decode cX9_canBe 100 = .ok (.iconst 1, 1) := by decide +kernel
theorem dX9_canBe_101 : decode cX9_canBe 101 = .ok (.goto 4, 3) := by decide +kernel
theorem dX9_canBe_104 : decode cX9_canBe 104 = .ok (.iconst 0, 1) := by decide +kernel
theorem dX9_canBe_105 : decode cX9_canBe 105 = .ok (.ireturn, 1) := by decide +kernel
theorem dX9_canBe_106 : decode cX9_canBe 106 = .ok (.aload_n 0, 1) := by decide +kernel
theorem dX9_canBe_107 : decode cX9_canBe 107 = .ok (.getfield 75, 3) := by decide +kernel
theorem dX9_canBe_110 : decode cX9_canBe 110 = .ok (.iload_n 2, 1) := by decide +kernel
theorem dX9_canBe_111 : decode cX9_canBe 111 = .ok (.invokevirtual 140, 3) := by decide +kernel
theorem dX9_canBe_114 : decode cX9_canBe 114 = .ok (.ifCond .eq 26, 3) := by decide +kernel
theorem dX9_canBe_117 : decode cX9_canBe 117 = .ok (.aload_n 0, 1) := by decide +kernel
theorem dX9_canBe_118 : decode cX9_canBe 118 = .ok (.getfield 75, 3) := by decide +kernel
theorem dX9_canBe_121 : decode cX9_canBe 121 = .ok (.iload_n 2, 1) := by decide +kernel
theorem dX9_canBe_122 : decode cX9_canBe 122 = .ok (.aload_n 0, 1) := by decide +kernel
theorem dX9_canBe_123 : decode cX9_canBe 123 = .ok (.getfield 37, 3) := by decide +kernel
theorem dX9_canBe_126 : decode cX9_canBe 126 = .ok (.getfield 129, 3) := by decide +kernel
theorem dX9_canBe_129 : decode cX9_canBe 129 = .ok (.invokevirtual 149, 3) := by decide +kernel
theorem dX9_canBe_132 : decode cX9_canBe 132 = .ok (.iload_n 3, 1) := by decide +kernel
theorem dX9_canBe_133 : decode cX9_canBe 133 = .ok (.if_icmp .lt 7, 3) := by decide +kernel
theorem dX9_canBe_136 : decode cX9_canBe 136 = .ok (.iconst 1, 1) := by decide +kernel
theorem dX9_canBe_137 : decode cX9_canBe 137 = .ok (.goto 4, 3) := by decide +kernel
theorem dX9_canBe_140 : decode cX9_canBe 140 = .ok (.iconst 0, 1) := by decide +kernel
theorem dX9_canBe_141 : decode cX9_canBe 141 = .ok (.ireturn, 1) := by decide +kernel
theorem dX9_canBe_142 : decode cX9_canBe 142 = .ok (.aload_n 0, 1) := by decide +kernel
theorem dX9_canBe_143 : decode cX9_canBe 143 = .ok (.iload_n 2, 1) := by decide +kernel
theorem dX9_canBe_144 : decode cX9_canBe 144 = .ok (.invokevirtual 278, 3) := by decide +kernel
theorem dX9_canBe_147 : decode cX9_canBe 147 = .ok (.iload_n 3, 1) := by decide +kernel
theorem dX9_canBe_148 : decode cX9_canBe 148 = .ok (.if_icmp .lt 7, 3) := by decide +kernel
theorem dX9_canBe_151 : decode cX9_canBe 151 = .ok (.iconst 1, 1) := by decide +kernel
theorem dX9_canBe_152 : decode cX9_canBe 152 = .ok (.goto 4, 3) := by decide +kernel
theorem dX9_canBe_155 : decode cX9_canBe 155 = .ok (.iconst 0, 1) := by decide +kernel
theorem dX9_canBe_156 : decode cX9_canBe 156 = .ok (.ireturn, 1) := by decide +kernel
theorem dX9_canBe_157 : decode cX9_canBe 157 = .ok (.aload_n 0, 1) := by decide +kernel
theorem dX9_canBe_158 : decode cX9_canBe 158 = .ok (.getfield 54, 3) := by decide +kernel
theorem dX9_canBe_161 : decode cX9_canBe 161 = .ok (.aload_n 0, 1) := by decide +kernel
theorem dX9_canBe_162 : decode cX9_canBe 162 = .ok (.getfield 75, 3) := by decide +kernel
theorem dX9_canBe_165 : decode cX9_canBe 165 = .ok (.aload_n 0, 1) := by decide +kernel
theorem dX9_canBe_166 : decode cX9_canBe 166 = .ok (.getfield 37, 3) := by decide +kernel
theorem dX9_canBe_169 : decode cX9_canBe 169 = .ok (.getfield 120, 3) := by decide +kernel
theorem dX9_canBe_172 : decode cX9_canBe 172 = .ok (.invokevirtual 171, 3) := by decide +kernel
theorem dX9_canBe_175 : decode cX9_canBe 175 = .ok (.aload_n 0, 1) := by decide +kernel
theorem dX9_canBe_176 : decode cX9_canBe 176 = .ok (.getfield 75, 3) := by decide +kernel
theorem dX9_canBe_179 : decode cX9_canBe 179 = .ok (.iload_n 2, 1) := by decide +kernel
theorem dX9_canBe_180 : decode cX9_canBe 180 = .ok (.invokevirtual 140, 3) := by decide +kernel
theorem dX9_canBe_183 : decode cX9_canBe 183 = .ok (.ifCond .eq 24, 3) := by decide +kernel
theorem dX9_canBe_186 : decode cX9_canBe 186 = .ok (.iload_n 3, 1) := by decide +kernel
theorem dX9_canBe_187 : decode cX9_canBe 187 = .ok (.iconst 1, 1) := by decide +kernel
theorem dX9_canBe_188 : decode cX9_canBe 188 = .ok (.if_icmp .gt 19, 3) := by decide +kernel
theorem dX9_canBe_191 : decode cX9_canBe 191 = .ok (.aload_n 0, 1) := by decide +kernel
theorem dX9_canBe_192 : decode cX9_canBe 192 = .ok (.getfield 54, 3) := by decide +kernel
theorem dX9_canBe_195 : decode cX9_canBe 195 = .ok (.iload_n 2, 1) := by decide +kernel
theorem dX9_canBe_196 : decode cX9_canBe 196 = .ok (.iload_n 3, 1) := by decide +kernel
theorem dX9_canBe_197 : decode cX9_canBe 197 = .ok (.invokevirtual 281, 3) := by decide +kernel
theorem dX9_canBe_200 : decode cX9_canBe 200 = .ok (.ifCond .eq 7, 3) := by decide +kernel
theorem dX9_canBe_203 : decode cX9_canBe 203 = .ok (.iconst 1, 1) := by decide +kernel
theorem dX9_canBe_204 : decode cX9_canBe 204 = .ok (.goto 4, 3) := by decide +kernel
theorem dX9_canBe_207 : decode cX9_canBe 207 = .ok (.iconst 0, 1) := by decide +kernel
theorem dX9_canBe_208 : decode cX9_canBe 208 = .ok (.ireturn, 1) := by decide +kernel
theorem dX9_canBe_209 : decode cX9_canBe 209 = .ok (.aload_n 0, 1) := by decide +kernel
theorem dX9_canBe_210 : decode cX9_canBe 210 = .ok (.getfield 54, 3) := by decide +kernel
theorem dX9_canBe_213 : decode cX9_canBe 213 = .ok (.aload_n 0, 1) := by decide +kernel
theorem dX9_canBe_214 : decode cX9_canBe 214 = .ok (.getfield 75, 3) := by decide +kernel
theorem dX9_canBe_217 : decode cX9_canBe 217 = .ok (.aload_n 0, 1) := by decide +kernel
theorem dX9_canBe_218 : decode cX9_canBe 218 = .ok (.getfield 37, 3) := by decide +kernel
theorem dX9_canBe_221 : decode cX9_canBe 221 = .ok (.getfield 120, 3) := by decide +kernel
theorem dX9_canBe_224 : decode cX9_canBe 224 = .ok (.invokevirtual 171, 3) := by decide +kernel
theorem dX9_canBe_227 : decode cX9_canBe 227 = .ok (.iload_n 2, 1) := by decide +kernel
theorem dX9_canBe_228 : decode cX9_canBe 228 = .ok (.bipush 10, 2) := by decide +kernel
theorem dX9_canBe_230 : decode cX9_canBe 230 = .ok (.idiv, 1) := by decide +kernel
theorem dX9_canBe_231 : decode cX9_canBe 231 = .ok (.ifCond .ne 25, 3) := by decide +kernel
theorem dX9_canBe_234 : decode cX9_canBe 234 = .ok (.aload_n 0, 1) := by decide +kernel
theorem dX9_canBe_235 : decode cX9_canBe 235 = .ok (.getfield 54, 3) := by decide +kernel
theorem dX9_canBe_238 : decode cX9_canBe 238 = .ok (.aload_n 0, 1) := by decide +kernel
theorem dX9_canBe_239 : decode cX9_canBe 239 = .ok (.getfield 75, 3) := by decide +kernel
theorem dX9_canBe_242 : decode cX9_canBe 242 = .ok (.invokevirtual 183, 3) := by decide +kernel
theorem dX9_canBe_245 : decode cX9_canBe 245 = .ok (.iload_n 1, 1) := by decide +kernel
theorem dX9_canBe_246 : decode cX9_canBe 246 = .ok (.bipush 100, 2) := by decide +kernel
theorem dX9_canBe_248 : decode cX9_canBe 248 = .ok (.irem, 1) := by decide +kernel
theorem dX9_canBe_249 : decode cX9_canBe 249 = .ok (.if_icmp .lt 7, 3) := by decide +kernel
theorem dX9_canBe_252 : decode cX9_canBe 252 = .ok (.iconst 1, 1) := by decide +kernel
theorem dX9_canBe_253 : decode cX9_canBe 253 = .ok (.goto 4, 3) := by decide +kernel
theorem dX9_canBe_256 : decode cX9_canBe 256 = .ok (.iconst 0, 1) := by decide +kernel
theorem dX9_canBe_257 : decode cX9_canBe 257 = .ok (.ireturn, 1) := by decide +kernel
theorem dX9_canBe_258 : decode cX9_canBe 258 = .ok (.iconst 0, 1) := by decide +kernel
theorem dX9_canBe_259 : decode cX9_canBe 259 = .ok (.ireturn, 1) := by decide +kernel
set_option maxRecDepth 20000 in
theorem ggX9_triesDelay_X2_hasGate : GoodIn wsX9_triesDelay wsX2_hasGate := goodIn_r _ [8, 9, 26, 27, 28, 29, 30, 31, 32, 33, 34, 35, 36] (by decide +kernel) (by decide +kernel)
set_option maxRecDepth 20000 in
theorem gX9_triesDelay_X2_hasGate : GoodIn wsX9_triesDelay (wsV RX9 116 RX2 yX2_hasGate wsX2_hasGate) := goodIn_app (goodIn_of _ (by decide +kernel)) ggX9_triesDelay_X2_hasGate
theorem dX9_triesDelay_0 : decode cX9_triesDelay 0 = .ok (.aload_n 0, 1) := by decide +kernel
theorem dX9_triesDelay_1 : decode cX9_triesDelay 1 = .ok (.getfield 75, 3) := by decide +kernel
theorem dX9_triesDelay_4 : decode cX9_triesDelay 4 = .ok (.iload_n 1, 1) := by decide +kernel
theorem dX9_triesDelay_5 : decode cX9_triesDelay 5 = .ok (.invokevirtual 116, 3) := by decide +kernel
theorem dX9_triesDelay_8 : decode cX9_triesDelay 8 = .ok (.ifCond .eq 8, 3) := by decide +kernel
theorem dX9_triesDelay_11 : decode cX9_triesDelay 11 = .ok (.iload_n 2, 1) := by decide +kernel
theorem dX9_triesDelay_12 : decode cX9_triesDelay 12 = .ok (.iconst 1, 1) := by decide +kernel
theorem dX9_triesDelay_13 : decode cX9_triesDelay 13 = .ok (.if_icmp .ge 5, 3) := by decide +kernel
theorem dX9_triesDelay_16 : decode cX9_triesDelay 16 = .ok (.iconst 0, 1) := by decide +kernel
theorem dX9_triesDelay_17 : decode cX9_triesDelay 17 = .ok (.ireturn, 1) := by decide +kernel
theorem dX9_triesDelay_18 : decode cX9_triesDelay 18 = .ok (.aload_n 0, 1) := by decide +kernel
theorem dX9_triesDelay_19 : decode cX9_triesDelay 19 = .ok (.getfield 37, 3) := by decide +kernel
theorem dX9_triesDelay_22 : decode cX9_triesDelay 22 = .ok (.getfield 129, 3) := by decide +kernel
theorem dX9_triesDelay_25 : decode cX9_triesDelay 25 = .ok (.iload_n 1, 1) := by decide +kernel
theorem dX9_triesDelay_26 : decode cX9_triesDelay 26 = .ok (.iload_n 2, 1) := by decide +kernel
theorem dX9_triesDelay_27 : decode cX9_triesDelay 27 = .ok (.iastore, 1) := by decide +kernel
theorem dX9_triesDelay_28 : decode cX9_triesDelay 28 = .ok (.iconst 1, 1) := by decide +kernel
theorem dX9_triesDelay_29 : decode cX9_triesDelay 29 = .ok (.ireturn, 1) := by decide +kernel
set_option maxRecDepth 20000 in
theorem ggX9_triesKind_X2_hasGate : GoodIn wsX9_triesKind wsX2_hasGate := goodIn_r _ [8, 9, 26, 27, 28, 29, 30, 31, 32, 33, 34, 35, 36] (by decide +kernel) (by decide +kernel)
set_option maxRecDepth 20000 in
theorem gX9_triesKind_X2_hasGate : GoodIn wsX9_triesKind (wsV RX9 116 RX2 yX2_hasGate wsX2_hasGate) := goodIn_app (goodIn_of _ (by decide +kernel)) ggX9_triesKind_X2_hasGate
theorem dX9_triesKind_0 : decode cX9_triesKind 0 = .ok (.aload_n 0, 1) := by decide +kernel
theorem dX9_triesKind_1 : decode cX9_triesKind 1 = .ok (.getfield 75, 3) := by decide +kernel
theorem dX9_triesKind_4 : decode cX9_triesKind 4 = .ok (.iload_n 1, 1) := by decide +kernel
theorem dX9_triesKind_5 : decode cX9_triesKind 5 = .ok (.invokevirtual 116, 3) := by decide +kernel
theorem dX9_triesKind_8 : decode cX9_triesKind 8 = .ok (.ifCond .eq 21, 3) := by decide +kernel
theorem dX9_triesKind_11 : decode cX9_triesKind 11 = .ok (.iload_n 2, 1) := by decide +kernel
theorem dX9_triesKind_12 : decode cX9_triesKind 12 = .ok (.iconst 3, 1) := by decide +kernel
theorem dX9_triesKind_13 : decode cX9_triesKind 13 = .ok (.if_icmp .gt 16, 3) := by decide +kernel
theorem dX9_triesKind_16 : decode cX9_triesKind 16 = .ok (.aload_n 0, 1) := by decide +kernel
theorem dX9_triesKind_17 : decode cX9_triesKind 17 = .ok (.getfield 37, 3) := by decide +kernel
theorem dX9_triesKind_20 : decode cX9_triesKind 20 = .ok (.getfield 120, 3) := by decide +kernel
theorem dX9_triesKind_23 : decode cX9_triesKind 23 = .ok (.iload_n 1, 1) := by decide +kernel
theorem dX9_triesKind_24 : decode cX9_triesKind 24 = .ok (.iaload, 1) := by decide +kernel
theorem dX9_triesKind_25 : decode cX9_triesKind 25 = .ok (.iconst 4, 1) := by decide +kernel
theorem dX9_triesKind_26 : decode cX9_triesKind 26 = .ok (.if_icmp .ne 5, 3) := by decide +kernel
theorem dX9_triesKind_29 : decode cX9_triesKind 29 = .ok (.iconst 0, 1) := by decide +kernel
theorem dX9_triesKind_30 : decode cX9_triesKind 30 = .ok (.ireturn, 1) := by decide +kernel
theorem dX9_triesKind_31 : decode cX9_triesKind 31 = .ok (.aload_n 0, 1) := by decide +kernel
theorem dX9_triesKind_32 : decode cX9_triesKind 32 = .ok (.getfield 37, 3) := by decide +kernel
theorem dX9_triesKind_35 : decode cX9_triesKind 35 = .ok (.getfield 120, 3) := by decide +kernel
theorem dX9_triesKind_38 : decode cX9_triesKind 38 = .ok (.iload_n 1, 1) := by decide +kernel
theorem dX9_triesKind_39 : decode cX9_triesKind 39 = .ok (.iload_n 2, 1) := by decide +kernel
theorem dX9_triesKind_40 : decode cX9_triesKind 40 = .ok (.iastore, 1) := by decide +kernel
theorem dX9_triesKind_41 : decode cX9_triesKind 41 = .ok (.iconst 1, 1) := by decide +kernel
theorem dX9_triesKind_42 : decode cX9_triesKind 42 = .ok (.ireturn, 1) := by decide +kernel
set_option maxRecDepth 20000 in
theorem ggX9_pathsAsLong_X2_lengthOf : GoodIn wsX9_pathsAsLong wsX2_lengthOf := goodIn_r _ [9, 10, 11, 25, 26, 27, 28, 29, 30, 31, 32, 33, 34, 35] (by decide +kernel) (by decide +kernel)
set_option maxRecDepth 20000 in
theorem gX9_pathsAsLong_X2_lengthOf : GoodIn wsX9_pathsAsLong (wsV RX9 149 RX2 yX2_lengthOf wsX2_lengthOf) := goodIn_app (goodIn_of _ (by decide +kernel)) ggX9_pathsAsLong_X2_lengthOf
theorem dX9_pathsAsLong_0 : decode cX9_pathsAsLong 0 = .ok (.iconst 0, 1) := by decide +kernel
theorem dX9_pathsAsLong_1 : decode cX9_pathsAsLong 1 = .ok (.istore_n 2, 1) := by decide +kernel
theorem dX9_pathsAsLong_2 : decode cX9_pathsAsLong 2 = .ok (.iconst 0, 1) := by decide +kernel
theorem dX9_pathsAsLong_3 : decode cX9_pathsAsLong 3 = .ok (.istore_n 3, 1) := by decide +kernel
theorem dX9_pathsAsLong_4 : decode cX9_pathsAsLong 4 = .ok (.iload_n 3, 1) := by decide +kernel
theorem dX9_pathsAsLong_5 : decode cX9_pathsAsLong 5 = .ok (.aload_n 0, 1) := by decide +kernel
theorem dX9_pathsAsLong_6 : decode cX9_pathsAsLong 6 = .ok (.getfield 75, 3) := by decide +kernel
theorem dX9_pathsAsLong_9 : decode cX9_pathsAsLong 9 = .ok (.getfield 113, 3) := by decide +kernel
theorem dX9_pathsAsLong_12 : decode cX9_pathsAsLong 12 = .ok (.if_icmp .ge 31, 3) := by decide +kernel
theorem dX9_pathsAsLong_15 : decode cX9_pathsAsLong 15 = .ok (.aload_n 0, 1) := by decide +kernel
theorem dX9_pathsAsLong_16 : decode cX9_pathsAsLong 16 = .ok (.getfield 75, 3) := by decide +kernel
theorem dX9_pathsAsLong_19 : decode cX9_pathsAsLong 19 = .ok (.iload_n 3, 1) := by decide +kernel
theorem dX9_pathsAsLong_20 : decode cX9_pathsAsLong 20 = .ok (.aload_n 0, 1) := by decide +kernel
theorem dX9_pathsAsLong_21 : decode cX9_pathsAsLong 21 = .ok (.getfield 37, 3) := by decide +kernel
theorem dX9_pathsAsLong_24 : decode cX9_pathsAsLong 24 = .ok (.getfield 129, 3) := by decide +kernel
theorem dX9_pathsAsLong_27 : decode cX9_pathsAsLong 27 = .ok (.invokevirtual 149, 3) := by decide +kernel
theorem dX9_pathsAsLong_30 : decode cX9_pathsAsLong 30 = .ok (.iload_n 1, 1) := by decide +kernel
theorem dX9_pathsAsLong_31 : decode cX9_pathsAsLong 31 = .ok (.if_icmp .lt 6, 3) := by decide +kernel
theorem dX9_pathsAsLong_34 : decode cX9_pathsAsLong 34 = .ok (.iinc 2 1, 3) := by decide +kernel
theorem dX9_pathsAsLong_37 : decode cX9_pathsAsLong 37 = .ok (.iinc 3 1, 3) := by decide +kernel
theorem dX9_pathsAsLong_40 : decode cX9_pathsAsLong 40 = .ok (.goto (-36), 3) := by decide +kernel
theorem dX9_pathsAsLong_43 : decode cX9_pathsAsLong 43 = .ok (.iload_n 2, 1) := by decide +kernel
theorem dX9_pathsAsLong_44 : decode cX9_pathsAsLong 44 = .ok (.ireturn, 1) := by decide +kernel
set_option maxRecDepth 20000 in
theorem ggX9_agreesWithSeen_X2_pairWithin : GoodIn wsX9_agreesWithSeen wsX2_pairWithin := goodIn_r _ [15, 16, 17, 18, 14, 19, 20, 74, 75, 76, 77, 78, 79, 80, 81, 82, 83, 84] (by decide +kernel) (by decide +kernel)
set_option maxRecDepth 20000 in
theorem gX9_agreesWithSeen_X2_pairWithin : GoodIn wsX9_agreesWithSeen (wsV RX9 255 RX2 yX2_pairWithin wsX2_pairWithin) := goodIn_app (goodIn_of _ (by decide +kernel)) ggX9_agreesWithSeen_X2_pairWithin
set_option maxRecDepth 20000 in
theorem ggX9_agreesWithSeen_X8_run : GoodIn wsX9_agreesWithSeen wsX8_run := goodIn_r _ [25, 26, 27, 28, 29, 30, 31, 32, 33, 34, 35, 24, 36, 37, 38, 39, 40, 41, 42, 43, 44, 45, 74, 75, 76, 77, 78, 79, 80, 81, 82, 83, 84, 85, 86, 87, 88] (by decide +kernel) (by decide +kernel)
set_option maxRecDepth 20000 in
theorem gX9_agreesWithSeen_X8_run : GoodIn wsX9_agreesWithSeen (wsV RX9 190 RX8 yX8_run wsX8_run) := goodIn_app (goodIn_of _ (by decide +kernel)) ggX9_agreesWithSeen_X8_run
set_option maxRecDepth 20000 in
theorem ggX9_agreesWithSeen_X8_isLate : GoodIn wsX9_agreesWithSeen wsX8_isLate := goodIn_r _ [49, 31, 28, 50, 51, 52, 24, 53, 29, 30, 74, 75, 76, 77, 78, 79, 80, 81, 82, 83, 84, 85, 86, 87, 88] (by decide +kernel) (by decide +kernel)
set_option maxRecDepth 20000 in
theorem gX9_agreesWithSeen_X8_isLate : GoodIn wsX9_agreesWithSeen (wsV RX9 200 RX8 yX8_isLate wsX8_isLate) := goodIn_app (goodIn_of _ (by decide +kernel)) ggX9_agreesWithSeen_X8_isLate
theorem dX9_agreesWithSeen_0 : decode cX9_agreesWithSeen 0 = .ok (.iconst 0, 1) := by decide +kernel
theorem dX9_agreesWithSeen_1 : decode cX9_agreesWithSeen 1 = .ok (.istore_n 1, 1) := by decide +kernel
theorem dX9_agreesWithSeen_2 : decode cX9_agreesWithSeen 2 = .ok (.iload_n 1, 1) := by decide +kernel
theorem dX9_agreesWithSeen_3 : decode cX9_agreesWithSeen 3 = .ok (.aload_n 0, 1) := by decide +kernel
theorem dX9_agreesWithSeen_4 : decode cX9_agreesWithSeen 4 = .ok (.getfield 26, 3) := by decide +kernel
theorem dX9_agreesWithSeen_7 : decode cX9_agreesWithSeen 7 = .ok (.getfield 219, 3) := by decide +kernel
theorem dX9_agreesWithSeen_10 : decode cX9_agreesWithSeen 10 = .ok (.if_icmp .ge 95, 3) := by decide +kernel
theorem dX9_agreesWithSeen_13 : decode cX9_agreesWithSeen 13 = .ok (.aload_n 0, 1) := by decide +kernel
theorem dX9_agreesWithSeen_14 : decode cX9_agreesWithSeen 14 = .ok (.getfield 61, 3) := by decide +kernel
theorem dX9_agreesWithSeen_17 : decode cX9_agreesWithSeen 17 = .ok (.aload_n 0, 1) := by decide +kernel
theorem dX9_agreesWithSeen_18 : decode cX9_agreesWithSeen 18 = .ok (.getfield 75, 3) := by decide +kernel
theorem dX9_agreesWithSeen_21 : decode cX9_agreesWithSeen 21 = .ok (.aload_n 0, 1) := by decide +kernel
theorem dX9_agreesWithSeen_22 : decode cX9_agreesWithSeen 22 = .ok (.getfield 37, 3) := by decide +kernel
theorem dX9_agreesWithSeen_25 : decode cX9_agreesWithSeen 25 = .ok (.getfield 120, 3) := by decide +kernel
theorem dX9_agreesWithSeen_28 : decode cX9_agreesWithSeen 28 = .ok (.aload_n 0, 1) := by decide +kernel
theorem dX9_agreesWithSeen_29 : decode cX9_agreesWithSeen 29 = .ok (.getfield 37, 3) := by decide +kernel
theorem dX9_agreesWithSeen_32 : decode cX9_agreesWithSeen 32 = .ok (.getfield 129, 3) := by decide +kernel
theorem dX9_agreesWithSeen_35 : decode cX9_agreesWithSeen 35 = .ok (.aload_n 0, 1) := by decide +kernel
theorem dX9_agreesWithSeen_36 : decode cX9_agreesWithSeen 36 = .ok (.getfield 75, 3) := by decide +kernel
theorem dX9_agreesWithSeen_39 : decode cX9_agreesWithSeen 39 = .ok (.aload_n 0, 1) := by decide +kernel
theorem dX9_agreesWithSeen_40 : decode cX9_agreesWithSeen 40 = .ok (.getfield 26, 3) := by decide +kernel
theorem dX9_agreesWithSeen_43 : decode cX9_agreesWithSeen 43 = .ok (.getfield 284, 3) := by decide +kernel
theorem dX9_agreesWithSeen_46 : decode cX9_agreesWithSeen 46 = .ok (.iload_n 1, 1) := by decide +kernel
theorem dX9_agreesWithSeen_47 : decode cX9_agreesWithSeen 47 = .ok (.iaload, 1) := by decide +kernel
theorem dX9_agreesWithSeen_48 : decode cX9_agreesWithSeen 48 = .ok (.invokevirtual 255, 3) := by decide +kernel
theorem dX9_agreesWithSeen_51 : decode cX9_agreesWithSeen 51 = .ok (.invokevirtual 190, 3) := by decide +kernel
theorem dX9_agreesWithSeen_54 : decode cX9_agreesWithSeen 54 = .ok (.aload_n 0, 1) := by decide +kernel
theorem dX9_agreesWithSeen_55 : decode cX9_agreesWithSeen 55 = .ok (.getfield 61, 3) := by decide +kernel
theorem dX9_agreesWithSeen_58 : decode cX9_agreesWithSeen 58 = .ok (.aload_n 0, 1) := by decide +kernel
theorem dX9_agreesWithSeen_59 : decode cX9_agreesWithSeen 59 = .ok (.getfield 75, 3) := by decide +kernel
theorem dX9_agreesWithSeen_62 : decode cX9_agreesWithSeen 62 = .ok (.aload_n 0, 1) := by decide +kernel
theorem dX9_agreesWithSeen_63 : decode cX9_agreesWithSeen 63 = .ok (.getfield 26, 3) := by decide +kernel
theorem dX9_agreesWithSeen_66 : decode cX9_agreesWithSeen 66 = .ok (.getfield 287, 3) := by decide +kernel
theorem dX9_agreesWithSeen_69 : decode cX9_agreesWithSeen 69 = .ok (.iload_n 1, 1) := by decide +kernel
theorem dX9_agreesWithSeen_70 : decode cX9_agreesWithSeen 70 = .ok (.iaload, 1) := by decide +kernel
theorem dX9_agreesWithSeen_71 : decode cX9_agreesWithSeen 71 = .ok (.invokevirtual 200, 3) := by decide +kernel
theorem dX9_agreesWithSeen_74 : decode cX9_agreesWithSeen 74 = .ok (.istore_n 2, 1) := by decide +kernel
theorem dX9_agreesWithSeen_75 : decode cX9_agreesWithSeen 75 = .ok (.iload_n 2, 1) := by decide +kernel
theorem dX9_agreesWithSeen_76 : decode cX9_agreesWithSeen 76 = .ok (.aload_n 0, 1) := by decide +kernel
theorem dX9_agreesWithSeen_77 : decode cX9_agreesWithSeen 77 = .ok (.getfield 26, 3) := by decide +kernel
theorem dX9_agreesWithSeen_80 : decode cX9_agreesWithSeen 80 = .ok (.getfield 290, 3) := by decide +kernel
theorem dX9_agreesWithSeen_83 : decode cX9_agreesWithSeen 83 = .ok (.iload_n 1, 1) := by decide +kernel
theorem dX9_agreesWithSeen_84 : decode cX9_agreesWithSeen 84 = .ok (.iaload, 1) := by decide +kernel
theorem dX9_agreesWithSeen_85 : decode cX9_agreesWithSeen 85 = .ok (.iconst 1, 1) := by decide +kernel
theorem dX9_agreesWithSeen_86 : decode cX9_agreesWithSeen 86 = .ok (.if_icmp .ne 7, 3) := by decide +kernel
theorem dX9_agreesWithSeen_89 : decode cX9_agreesWithSeen 89 = .ok (.iconst 1, 1) := by decide +kernel
theorem dX9_agreesWithSeen_90 : decode cX9_agreesWithSeen 90 = .ok (.goto 4, 3) := by decide +kernel
theorem dX9_agreesWithSeen_93 : decode cX9_agreesWithSeen 93 = .ok (.iconst 0, 1) := by decide +kernel
theorem dX9_agreesWithSeen_94 : decode cX9_agreesWithSeen 94 = .ok (.if_icmp .eq 5, 3) := by decide +kernel
theorem dX9_agreesWithSeen_97 : decode cX9_agreesWithSeen 97 = .ok (.iconst 0, 1) := by decide +kernel
theorem dX9_agreesWithSeen_98 : decode cX9_agreesWithSeen 98 = .ok (.ireturn, 1) := by decide +kernel
theorem dX9_agreesWithSeen_99 : decode cX9_agreesWithSeen 99 = .ok (.iinc 1 1, 3) := by decide +kernel
theorem dX9_agreesWithSeen_102 : decode cX9_agreesWithSeen 102 = .ok (.goto (-100), 3) := by decide +kernel
theorem dX9_agreesWithSeen_105 : decode cX9_agreesWithSeen 105 = .ok (.iconst 1, 1) := by decide +kernel
theorem dX9_agreesWithSeen_106 : decode cX9_agreesWithSeen 106 = .ok (.ireturn, 1) := by decide +kernel
theorem dX9_chanceOf_0 : decode cX9_chanceOf 0 = .ok (.iconst 1, 1) := by decide +kernel
theorem dX9_chanceOf_1 : decode cX9_chanceOf 1 = .ok (.istore_n 3, 1) := by decide +kernel
theorem dX9_chanceOf_2 : decode cX9_chanceOf 2 = .ok (.iconst 0, 1) := by decide +kernel
theorem dX9_chanceOf_3 : decode cX9_chanceOf 3 = .ok (.istore 4, 2) := by decide +kernel
theorem dX9_chanceOf_5 : decode cX9_chanceOf 5 = .ok (.iload 4, 2) := by decide +kernel
theorem dX9_chanceOf_7 : decode cX9_chanceOf 7 = .ok (.aload_n 0, 1) := by decide +kernel
theorem dX9_chanceOf_8 : decode cX9_chanceOf 8 = .ok (.getfield 75, 3) := by decide +kernel
theorem dX9_chanceOf_11 : decode cX9_chanceOf 11 = .ok (.getfield 197, 3) := by decide +kernel
theorem dX9_chanceOf_14 : decode cX9_chanceOf 14 = .ok (.if_icmp .ge 30, 3) := by decide +kernel
theorem dX9_chanceOf_17 : decode cX9_chanceOf 17 = .ok (.iload_n 3, 1) := by decide +kernel
theorem dX9_chanceOf_18 : decode cX9_chanceOf 18 = .ok (.iload_n 1, 1) := by decide +kernel
theorem dX9_chanceOf_19 : decode cX9_chanceOf 19 = .ok (.iload 4, 2) := by decide +kernel
theorem dX9_chanceOf_21 : decode cX9_chanceOf 21 = .ok (.ishr, 1) := by decide +kernel
theorem dX9_chanceOf_22 : decode cX9_chanceOf 22 = .ok (.iconst 1, 1) := by decide +kernel
theorem dX9_chanceOf_23 : decode cX9_chanceOf 23 = .ok (.iand, 1) := by decide +kernel
theorem dX9_chanceOf_24 : decode cX9_chanceOf 24 = .ok (.iconst 1, 1) := by decide +kernel
theorem dX9_chanceOf_25 : decode cX9_chanceOf 25 = .ok (.if_icmp .ne 7, 3) := by decide +kernel
theorem dX9_chanceOf_28 : decode cX9_chanceOf 28 = .ok (.iload_n 2, 1) := by decide +kernel
theorem dX9_chanceOf_29 : decode cX9_chanceOf 29 = .ok (.goto 7, 3) := by decide +kernel
theorem dX9_chanceOf_32 : decode cX9_chanceOf 32 = .ok (.bipush 10, 2) := by decide +kernel
theorem dX9_chanceOf_34 : decode cX9_chanceOf 34 = .ok (.iload_n 2, 1) := by decide +kernel
theorem dX9_chanceOf_35 : decode cX9_chanceOf 35 = .ok (.isub, 1) := by decide +kernel
theorem dX9_chanceOf_36 : decode cX9_chanceOf 36 = .ok (.imul, 1) := by decide +kernel
theorem dX9_chanceOf_37 : decode cX9_chanceOf 37 = .ok (.istore_n 3, 1) := by decide +kernel
theorem dX9_chanceOf_38 : decode cX9_chanceOf 38 = .ok (.iinc 4 1, 3) := by decide +kernel
theorem dX9_chanceOf_41 : decode cX9_chanceOf 41 = .ok (.goto (-36), 3) := by decide +kernel
theorem dX9_chanceOf_44 : decode cX9_chanceOf 44 = .ok (.iload_n 3, 1) := by decide +kernel
theorem dX9_chanceOf_45 : decode cX9_chanceOf 45 = .ok (.ireturn, 1) := by decide +kernel
theorem dX9_slowTrial_0 : decode cX9_slowTrial 0 = .ok (.iconst 0, 1) := by decide +kernel
theorem dX9_slowTrial_1 : decode cX9_slowTrial 1 = .ok (.istore_n 2, 1) := by decide +kernel
theorem dX9_slowTrial_2 : decode cX9_slowTrial 2 = .ok (.iload_n 2, 1) := by decide +kernel
theorem dX9_slowTrial_3 : decode cX9_slowTrial 3 = .ok (.aload_n 0, 1) := by decide +kernel
theorem dX9_slowTrial_4 : decode cX9_slowTrial 4 = .ok (.getfield 75, 3) := by decide +kernel
theorem dX9_slowTrial_7 : decode cX9_slowTrial 7 = .ok (.getfield 197, 3) := by decide +kernel
theorem dX9_slowTrial_10 : decode cX9_slowTrial 10 = .ok (.if_icmp .ge 42, 3) := by decide +kernel
theorem dX9_slowTrial_13 : decode cX9_slowTrial 13 = .ok (.aload_n 0, 1) := by decide +kernel
theorem dX9_slowTrial_14 : decode cX9_slowTrial 14 = .ok (.getfield 37, 3) := by decide +kernel
theorem dX9_slowTrial_17 : decode cX9_slowTrial 17 = .ok (.getfield 129, 3) := by decide +kernel
theorem dX9_slowTrial_20 : decode cX9_slowTrial 20 = .ok (.iload_n 2, 1) := by decide +kernel
theorem dX9_slowTrial_21 : decode cX9_slowTrial 21 = .ok (.aload_n 0, 1) := by decide +kernel
theorem dX9_slowTrial_22 : decode cX9_slowTrial 22 = .ok (.getfield 33, 3) := by decide +kernel
theorem dX9_slowTrial_25 : decode cX9_slowTrial 25 = .ok (.getfield 129, 3) := by decide +kernel
theorem dX9_slowTrial_28 : decode cX9_slowTrial 28 = .ok (.iload_n 2, 1) := by decide +kernel
theorem dX9_slowTrial_29 : decode cX9_slowTrial 29 = .ok (.iaload, 1) := by decide +kernel
theorem dX9_slowTrial_30 : decode cX9_slowTrial 30 = .ok (.iload_n 1, 1) := by decide +kernel
theorem dX9_slowTrial_31 : decode cX9_slowTrial 31 = .ok (.iload_n 2, 1) := by decide +kernel
theorem dX9_slowTrial_32 : decode cX9_slowTrial 32 = .ok (.ishr, 1) := by decide +kernel
theorem dX9_slowTrial_33 : decode cX9_slowTrial 33 = .ok (.iconst 1, 1) := by decide +kernel
theorem dX9_slowTrial_34 : decode cX9_slowTrial 34 = .ok (.iand, 1) := by decide +kernel
theorem dX9_slowTrial_35 : decode cX9_slowTrial 35 = .ok (.iconst 1, 1) := by decide +kernel
theorem dX9_slowTrial_36 : decode cX9_slowTrial 36 = .ok (.if_icmp .ne 7, 3) := by decide +kernel
theorem dX9_slowTrial_39 : decode cX9_slowTrial 39 = .ok (.iconst 3, 1) := by decide +kernel
theorem dX9_slowTrial_40 : decode cX9_slowTrial 40 = .ok (.goto 4, 3) := by decide +kernel
theorem dX9_slowTrial_43 : decode cX9_slowTrial 43 = .ok (.iconst 0, 1) := by decide +kernel
theorem dX9_slowTrial_44 : decode cX9_slowTrial 44 = .ok (.iadd, 1) := by decide +kernel
theorem dX9_slowTrial_45 : decode cX9_slowTrial 45 = .ok (.iastore, 1) := by decide +kernel
theorem dX9_slowTrial_46 : decode cX9_slowTrial 46 = .ok (.iinc 2 1, 3) := by decide +kernel
theorem dX9_slowTrial_49 : decode cX9_slowTrial 49 = .ok (.goto (-47), 3) := by decide +kernel
theorem dX9_slowTrial_52 : decode cX9_slowTrial 52 = .ok (.return_, 1) := by decide +kernel
theorem dX9_ordersOf_0 : decode cX9_ordersOf 0 = .ok (.iload_n 0, 1) := by decide +kernel
theorem dX9_ordersOf_1 : decode cX9_ordersOf 1 = .ok (.ifCond .lt 11, 3) := by decide +kernel
theorem dX9_ordersOf_4 : decode cX9_ordersOf 4 = .ok (.iload_n 0, 1) := by decide +kernel
theorem dX9_ordersOf_5 : decode cX9_ordersOf 5 = .ok (.getstatic 293, 3) := by decide +kernel
theorem dX9_ordersOf_8 : decode cX9_ordersOf 8 = .ok (.arraylength, 1) := by decide +kernel
theorem dX9_ordersOf_9 : decode cX9_ordersOf 9 = .ok (.if_icmp .lt 7, 3) := by decide +kernel
theorem dX9_ordersOf_12 : decode cX9_ordersOf 12 = .ok (.iconst 1, 1) := by decide +kernel
theorem dX9_ordersOf_13 : decode cX9_ordersOf 13 = .ok (.goto 8, 3) := by decide +kernel
theorem dX9_ordersOf_16 : decode cX9_ordersOf 16 = .ok (.getstatic 293, 3) := by decide +kernel
theorem dX9_ordersOf_19 : decode cX9_ordersOf 19 = .ok (.iload_n 0, 1) := by decide +kernel
theorem dX9_ordersOf_20 : decode cX9_ordersOf 20 = .ok (.iaload, 1) := by decide +kernel
theorem dX9_ordersOf_21 : decode cX9_ordersOf 21 = .ok (.ireturn, 1) := by decide +kernel
theorem dX9_fraction_0 : decode cX9_fraction 0 = .ok (.iload_n 0, 1) := by decide +kernel
theorem dX9_fraction_1 : decode cX9_fraction 1 = .ok (.istore_n 3, 1) := by decide +kernel
theorem dX9_fraction_2 : decode cX9_fraction 2 = .ok (.iload_n 1, 1) := by decide +kernel
theorem dX9_fraction_3 : decode cX9_fraction 3 = .ok (.istore 4, 2) := by decide +kernel
theorem dX9_fraction_5 : decode cX9_fraction 5 = .ok (.iconst 0, 1) := by decide +kernel
theorem dX9_fraction_6 : decode cX9_fraction 6 = .ok (.istore 5, 2) := by decide +kernel
theorem dX9_fraction_8 : decode cX9_fraction 8 = .ok (.iload 5, 2) := by decide +kernel
theorem dX9_fraction_10 : decode cX9_fraction 10 = .ok (.bipush 64, 2) := by decide +kernel
theorem dX9_fraction_12 : decode cX9_fraction 12 = .ok (.if_icmp .ge 27, 3) := by decide +kernel
theorem dX9_fraction_15 : decode cX9_fraction 15 = .ok (.iload 4, 2) := by decide +kernel
theorem dX9_fraction_17 : decode cX9_fraction 17 = .ok (.ifCond .eq 22, 3) := by decide +kernel
theorem dX9_fraction_20 : decode cX9_fraction 20 = .ok (.iload_n 3, 1) := by decide +kernel
theorem dX9_fraction_21 : decode cX9_fraction 21 = .ok (.iload 4, 2) := by decide +kernel
theorem dX9_fraction_23 : decode cX9_fraction 23 = .ok (.irem, 1) := by decide +kernel
theorem dX9_fraction_24 : decode cX9_fraction 24 = .ok (.istore 6, 2) := by decide +kernel
theorem dX9_fraction_26 : decode cX9_fraction 26 = .ok (.iload 4, 2) := by decide +kernel
theorem dX9_fraction_28 : decode cX9_fraction 28 = .ok (.istore_n 3, 1) := by decide +kernel
theorem dX9_fraction_29 : decode cX9_fraction 29 = .ok (.iload 6, 2) := by decide +kernel
theorem dX9_fraction_31 : decode cX9_fraction 31 = .ok (.istore 4, 2) := by decide +kernel
theorem dX9_fraction_33 : decode cX9_fraction 33 = .ok (.iinc 5 1, 3) := by decide +kernel
theorem dX9_fraction_36 : decode cX9_fraction 36 = .ok (.goto (-28), 3) := by decide +kernel
theorem dX9_fraction_39 : decode cX9_fraction 39 = .ok (.iload_n 3, 1) := by decide +kernel
theorem dX9_fraction_40 : decode cX9_fraction 40 = .ok (.ifCond .ne 5, 3) := by decide +kernel
theorem dX9_fraction_43 : decode cX9_fraction 43 = .ok (.iconst 1, 1) := by decide +kernel
theorem dX9_fraction_44 : decode cX9_fraction 44 = .ok (.istore_n 3, 1) := by decide +kernel
theorem dX9_fraction_45 : decode cX9_fraction 45 = .ok (.iload_n 2, 1) := by decide +kernel
theorem dX9_fraction_46 : decode cX9_fraction 46 = .ok (.ifCond .eq 9, 3) := by decide +kernel
theorem dX9_fraction_49 : decode cX9_fraction 49 = .ok (.iload_n 0, 1) := by decide +kernel
theorem dX9_fraction_50 : decode cX9_fraction 50 = .ok (.iload_n 3, 1) := by decide +kernel
theorem dX9_fraction_51 : decode cX9_fraction 51 = .ok (.idiv, 1) := by decide +kernel
theorem dX9_fraction_52 : decode cX9_fraction 52 = .ok (.goto 6, 3) := by decide +kernel
theorem dX9_fraction_55 : decode cX9_fraction 55 = .ok (.iload_n 1, 1) := by decide +kernel
theorem dX9_fraction_56 : decode cX9_fraction 56 = .ok (.iload_n 3, 1) := by decide +kernel
theorem dX9_fraction_57 : decode cX9_fraction 57 = .ok (.idiv, 1) := by decide +kernel
theorem dX9_fraction_58 : decode cX9_fraction 58 = .ok (.ireturn, 1) := by decide +kernel
theorem dX10_init_0 : decode cX10_init 0 = .ok (.aload_n 0, 1) := by decide +kernel
theorem dX10_init_1 : decode cX10_init 1 = .ok (.invokespecial 1, 3) := by decide +kernel
theorem dX10_init_4 : decode cX10_init 4 = .ok (.aload_n 0, 1) := by decide +kernel
theorem dX10_init_5 : decode cX10_init 5 = .ok (.bipush 32, 2) := by decide +kernel
theorem dX10_init_7 : decode cX10_init 7 = .ok (.newarray .int, 2) := by decide +kernel
theorem dX10_init_9 : decode cX10_init 9 = .ok (.putfield 7, 3) := by decide +kernel
theorem dX10_init_12 : decode cX10_init 12 = .ok (.aload_n 0, 1) := by decide +kernel
theorem dX10_init_13 : decode cX10_init 13 = .ok (.bipush 8, 2) := by decide +kernel
theorem dX10_init_15 : decode cX10_init 15 = .ok (.newarray .int, 2) := by decide +kernel
theorem dX10_init_17 : decode cX10_init 17 = .ok (.putfield 13, 3) := by decide +kernel
theorem dX10_init_20 : decode cX10_init 20 = .ok (.aload_n 0, 1) := by decide +kernel
theorem dX10_init_21 : decode cX10_init 21 = .ok (.bipush 8, 2) := by decide +kernel
theorem dX10_init_23 : decode cX10_init 23 = .ok (.newarray .int, 2) := by decide +kernel
theorem dX10_init_25 : decode cX10_init 25 = .ok (.putfield 16, 3) := by decide +kernel
theorem dX10_init_28 : decode cX10_init 28 = .ok (.aload_n 0, 1) := by decide +kernel
theorem dX10_init_29 : decode cX10_init 29 = .ok (.iconst 4, 1) := by decide +kernel
theorem dX10_init_30 : decode cX10_init 30 = .ok (.newarray .int, 2) := by decide +kernel
theorem dX10_init_32 : decode cX10_init 32 = .ok (.putfield 19, 3) := by decide +kernel
theorem dX10_init_35 : decode cX10_init 35 = .ok (.aload_n 0, 1) := by decide +kernel
theorem dX10_init_36 : decode cX10_init 36 = .ok (.bipush 8, 2) := by decide +kernel
theorem dX10_init_38 : decode cX10_init 38 = .ok (.newarray .int, 2) := by decide +kernel
theorem dX10_init_40 : decode cX10_init 40 = .ok (.putfield 22, 3) := by decide +kernel
theorem dX10_init_43 : decode cX10_init 43 = .ok (.aload_n 0, 1) := by decide +kernel
theorem dX10_init_44 : decode cX10_init 44 = .ok (.bipush 8, 2) := by decide +kernel
theorem dX10_init_46 : decode cX10_init 46 = .ok (.newarray .int, 2) := by decide +kernel
theorem dX10_init_48 : decode cX10_init 48 = .ok (.putfield 25, 3) := by decide +kernel
theorem dX10_init_51 : decode cX10_init 51 = .ok (.aload_n 0, 1) := by decide +kernel
theorem dX10_init_52 : decode cX10_init 52 = .ok (.iconst 4, 1) := by decide +kernel
theorem dX10_init_53 : decode cX10_init 53 = .ok (.newarray .int, 2) := by decide +kernel
theorem dX10_init_55 : decode cX10_init 55 = .ok (.putfield 28, 3) := by decide +kernel
theorem dX10_init_58 : decode cX10_init 58 = .ok (.aload_n 0, 1) := by decide +kernel
theorem dX10_init_59 : decode cX10_init 59 = .ok (.bipush 40, 2) := by decide +kernel
theorem dX10_init_61 : decode cX10_init 61 = .ok (.newarray .int, 2) := by decide +kernel
theorem dX10_init_63 : decode cX10_init 63 = .ok (.putfield 31, 3) := by decide +kernel
theorem dX10_init_66 : decode cX10_init 66 = .ok (.aload_n 0, 1) := by decide +kernel
theorem dX10_init_67 : decode cX10_init 67 = .ok (.bipush 64, 2) := by decide +kernel
theorem dX10_init_69 : decode cX10_init 69 = .ok (.newarray .int, 2) := by decide +kernel
theorem dX10_init_71 : decode cX10_init 71 = .ok (.putfield 34, 3) := by decide +kernel
theorem dX10_init_74 : decode cX10_init 74 = .ok (.aload_n 0, 1) := by decide +kernel
theorem dX10_init_75 : decode cX10_init 75 = .ok (.bipush 64, 2) := by decide +kernel
theorem dX10_init_77 : decode cX10_init 77 = .ok (.newarray .int, 2) := by decide +kernel
theorem dX10_init_79 : decode cX10_init 79 = .ok (.putfield 37, 3) := by decide +kernel
theorem dX10_init_82 : decode cX10_init 82 = .ok (.aload_n 0, 1) := by decide +kernel
theorem dX10_init_83 : decode cX10_init 83 = .ok (.bipush 12, 2) := by decide +kernel
theorem dX10_init_85 : decode cX10_init 85 = .ok (.newarray .int, 2) := by decide +kernel
theorem dX10_init_87 : decode cX10_init 87 = .ok (.putfield 40, 3) := by decide +kernel
theorem dX10_init_90 : decode cX10_init 90 = .ok (.aload_n 0, 1) := by decide +kernel
theorem dX10_init_91 : decode cX10_init 91 = .ok (.bipush 12, 2) := by decide +kernel
theorem dX10_init_93 : decode cX10_init 93 = .ok (.newarray .int, 2) := by decide +kernel
theorem dX10_init_95 : decode cX10_init 95 = .ok (.putfield 43, 3) := by decide +kernel
theorem dX10_init_98 : decode cX10_init 98 = .ok (.aload_n 0, 1) := by decide +kernel
theorem dX10_init_99 : decode cX10_init 99 = .ok (.bipush 12, 2) := by decide +kernel
theorem dX10_init_101 : decode cX10_init 101 = .ok (.newarray .int, 2) := by decide +kernel
theorem dX10_init_103 : decode cX10_init 103 = .ok (.putfield 46, 3) := by decide +kernel
theorem dX10_init_106 : decode cX10_init 106 = .ok (.aload_n 0, 1) := by decide +kernel
theorem dX10_init_107 : decode cX10_init 107 = .ok (.sipush 128, 3) := by decide +kernel
theorem dX10_init_110 : decode cX10_init 110 = .ok (.newarray .int, 2) := by decide +kernel
theorem dX10_init_112 : decode cX10_init 112 = .ok (.putfield 49, 3) := by decide +kernel
theorem dX10_init_115 : decode cX10_init 115 = .ok (.aload_n 0, 1) := by decide +kernel
theorem dX10_init_116 : decode cX10_init 116 = .ok (.sipush 1200, 3) := by decide +kernel
theorem dX10_init_119 : decode cX10_init 119 = .ok (.newarray .int, 2) := by decide +kernel
theorem dX10_init_121 : decode cX10_init 121 = .ok (.putfield 52, 3) := by decide +kernel
theorem dX10_init_124 : decode cX10_init 124 = .ok (.aload_n 0, 1) := by decide +kernel
theorem dX10_init_125 : decode cX10_init 125 = .ok (.sipush 224, 3) := by decide +kernel
theorem dX10_init_128 : decode cX10_init 128 = .ok (.newarray .int, 2) := by decide +kernel
theorem dX10_init_130 : decode cX10_init 130 = .ok (.putfield 55, 3) := by decide +kernel
theorem dX10_init_133 : decode cX10_init 133 = .ok (.aload_n 0, 1) := by decide +kernel
theorem dX10_init_134 : decode cX10_init 134 = .ok (.bipush 6, 2) := by decide +kernel
theorem dX10_init_136 : decode cX10_init 136 = .ok (.newarray .int, 2) := by decide +kernel
theorem dX10_init_138 : decode cX10_init 138 = .ok (.putfield 58, 3) := by decide +kernel
theorem dX10_init_141 : decode cX10_init 141 = .ok (.aload_n 0, 1) := by decide +kernel
theorem dX10_init_142 : decode cX10_init 142 = .ok (.bipush 6, 2) := by decide +kernel
theorem dX10_init_144 : decode cX10_init 144 = .ok (.newarray .int, 2) := by decide +kernel
theorem dX10_init_146 : decode cX10_init 146 = .ok (.putfield 61, 3) := by decide +kernel
theorem dX10_init_149 : decode cX10_init 149 = .ok (.aload_n 0, 1) := by decide +kernel
theorem dX10_init_150 : decode cX10_init 150 = .ok (.bipush 6, 2) := by decide +kernel
theorem dX10_init_152 : decode cX10_init 152 = .ok (.newarray .int, 2) := by decide +kernel
theorem dX10_init_154 : decode cX10_init 154 = .ok (.putfield 64, 3) := by decide +kernel
theorem dX10_init_157 : decode cX10_init 157 = .ok (.aload_n 0, 1) := by decide +kernel
theorem dX10_init_158 : decode cX10_init 158 = .ok (.iconst 2, 1) := by decide +kernel
theorem dX10_init_159 : decode cX10_init 159 = .ok (.newarray .boolean, 2) := by decide +kernel
theorem dX10_init_161 : decode cX10_init 161 = .ok (.putfield 67, 3) := by decide +kernel
theorem dX10_init_164 : decode cX10_init 164 = .ok (.aload_n 0, 1) := by decide +kernel
theorem dX10_init_165 : decode cX10_init 165 = .ok (.bipush 32, 2) := by decide +kernel
theorem dX10_init_167 : decode cX10_init 167 = .ok (.newarray .int, 2) := by decide +kernel
theorem dX10_init_169 : decode cX10_init 169 = .ok (.putfield 71, 3) := by decide +kernel
theorem dX10_init_172 : decode cX10_init 172 = .ok (.return_, 1) := by decide +kernel
theorem dX10_in_0 : decode cX10_in 0 = .ok (.lload_n 0, 1) := by decide +kernel
theorem dX10_in_1 : decode cX10_in 1 = .ok (.lload_n 2, 1) := by decide +kernel
theorem dX10_in_2 : decode cX10_in 2 = .ok (.lcmp, 1) := by decide +kernel
theorem dX10_in_3 : decode cX10_in 3 = .ok (.ifCond .lt 14, 3) := by decide +kernel
theorem dX10_in_6 : decode cX10_in 6 = .ok (.lload_n 0, 1) := by decide +kernel
theorem dX10_in_7 : decode cX10_in 7 = .ok (.lload 4, 2) := by decide +kernel
theorem dX10_in_9 : decode cX10_in 9 = .ok (.lcmp, 1) := by decide +kernel
theorem dX10_in_10 : decode cX10_in 10 = .ok (.ifCond .gt 7, 3) := by decide +kernel
theorem dX10_in_13 : decode cX10_in 13 = .ok (.iconst 1, 1) := by decide +kernel
theorem dX10_in_14 : decode cX10_in 14 = .ok (.goto 4, 3) := by decide +kernel
theorem dX10_in_17 : decode cX10_in 17 = .ok (.iconst 0, 1) := by decide +kernel
theorem dX10_in_18 : decode cX10_in 18 = .ok (.ireturn, 1) := by decide +kernel
theorem dX10_has_0 : decode cX10_has 0 = .ok (.iload_n 0, 1) := by decide +kernel
theorem dX10_has_1 : decode cX10_has 1 = .ok (.iload_n 1, 1) := by decide +kernel
theorem dX10_has_2 : decode cX10_has 2 = .ok (.ishr, 1) := by decide +kernel
theorem dX10_has_3 : decode cX10_has 3 = .ok (.iconst 1, 1) := by decide +kernel
theorem dX10_has_4 : decode cX10_has 4 = .ok (.iand, 1) := by decide +kernel
theorem dX10_has_5 : decode cX10_has 5 = .ok (.iconst 1, 1) := by decide +kernel
theorem dX10_has_6 : decode cX10_has 6 = .ok (.if_icmp .ne 7, 3) := by decide +kernel
theorem dX10_has_9 : decode cX10_has 9 = .ok (.iconst 1, 1) := by decide +kernel
theorem dX10_has_10 : decode cX10_has 10 = .ok (.goto 4, 3) := by decide +kernel
theorem dX10_has_13 : decode cX10_has 13 = .ok (.iconst 0, 1) := by decide +kernel
theorem dX10_has_14 : decode cX10_has 14 = .ok (.ireturn, 1) := by decide +kernel
theorem dX10_ones_0 : decode cX10_ones 0 = .ok (.iconst 0, 1) := by decide +kernel
theorem dX10_ones_1 : decode cX10_ones 1 = .ok (.istore_n 1, 1) := by decide +kernel
theorem dX10_ones_2 : decode cX10_ones 2 = .ok (.iconst 0, 1) := by decide +kernel
theorem dX10_ones_3 : decode cX10_ones 3 = .ok (.istore_n 2, 1) := by decide +kernel
theorem dX10_ones_4 : decode cX10_ones 4 = .ok (.iload_n 2, 1) := by decide +kernel
theorem dX10_ones_5 : decode cX10_ones 5 = .ok (.bipush 8, 2) := by decide +kernel
theorem dX10_ones_7 : decode cX10_ones 7 = .ok (.if_icmp .ge 17, 3) := by decide +kernel
theorem dX10_ones_10 : decode cX10_ones 10 = .ok (.iload_n 1, 1) := by decide +kernel
theorem dX10_ones_11 : decode cX10_ones 11 = .ok (.iload_n 0, 1) := by decide +kernel
theorem dX10_ones_12 : decode cX10_ones 12 = .ok (.iload_n 2, 1) := by decide +kernel
theorem dX10_ones_13 : decode cX10_ones 13 = .ok (.ishr, 1) := by decide +kernel
theorem dX10_ones_14 : decode cX10_ones 14 = .ok (.iconst 1, 1) := by decide +kernel
theorem dX10_ones_15 : decode cX10_ones 15 = .ok (.iand, 1) := by decide +kernel
theorem dX10_ones_16 : decode cX10_ones 16 = .ok (.iadd, 1) := by decide +kernel
theorem dX10_ones_17 : decode cX10_ones 17 = .ok (.istore_n 1, 1) := by decide +kernel
theorem dX10_ones_18 : decode cX10_ones 18 = .ok (.iinc 2 1, 3) := by decide +kernel
theorem dX10_ones_21 : decode cX10_ones 21 = .ok (.goto (-17), 3) := by decide +kernel
theorem dX10_ones_24 : decode cX10_ones 24 = .ok (.iload_n 1, 1) := by decide +kernel
theorem dX10_ones_25 : decode cX10_ones 25 = .ok (.ireturn, 1) := by decide +kernel
set_option maxRecDepth 20000 in
theorem ggX10_write_X10_in : GoodIn wsX10_write wsX10_in := goodIn_r _ [7] (by decide +kernel) (by decide +kernel)
set_option maxRecDepth 20000 in
theorem gX10_write_X10_in : GoodIn wsX10_write (va_wsS RX10 76 yX10_in wsX10_in) := goodIn_app (goodIn_of _ (by decide +kernel)) ggX10_write_X10_in
theorem dX10_write_0 : decode cX10_write 0 = .ok (.iload_n 1, 1) := by decide +kernel
theorem dX10_write_1 : decode cX10_write 1 = .ok (.i2l, 1) := by decide +kernel
theorem dX10_write_2 : decode cX10_write 2 = .ok (.lconst 0, 1) := by decide +kernel
theorem dX10_write_3 : decode cX10_write 3 = .ok (.ldc2_w 74, 3) := by decide +kernel
theorem dX10_write_6 : decode cX10_write 6 = .ok (.invokestatic 76, 3) := by decide +kernel
theorem dX10_write_9 : decode cX10_write 9 = .ok (.ifCond .ne 6, 3) := by decide +kernel
theorem dX10_write_12 : decode cX10_write 12 = .ok (.bipush (-2), 2) := by decide +kernel
theorem dX10_write_14 : decode cX10_write 14 = .ok (.ireturn, 1) := by decide +kernel
theorem dX10_write_15 : decode cX10_write 15 = .ok (.aload_n 0, 1) := by decide +kernel
theorem dX10_write_16 : decode cX10_write 16 = .ok (.getfield 80, 3) := by decide +kernel
theorem dX10_write_19 : decode cX10_write 19 = .ok (.bipush 40, 2) := by decide +kernel
theorem dX10_write_21 : decode cX10_write 21 = .ok (.if_icmp .ne 6, 3) := by decide +kernel
theorem dX10_write_24 : decode cX10_write 24 = .ok (.bipush (-4), 2) := by decide +kernel
theorem dX10_write_26 : decode cX10_write 26 = .ok (.ireturn, 1) := by decide +kernel
theorem dX10_write_27 : decode cX10_write 27 = .ok (.aload_n 0, 1) := by decide +kernel
theorem dX10_write_28 : decode cX10_write 28 = .ok (.getfield 31, 3) := by decide +kernel
theorem dX10_write_31 : decode cX10_write 31 = .ok (.aload_n 0, 1) := by decide +kernel
theorem dX10_write_32 : decode cX10_write 32 = .ok (.getfield 80, 3) := by decide +kernel
theorem dX10_write_35 : decode cX10_write 35 = .ok (.iload_n 1, 1) := by decide +kernel
theorem dX10_write_36 : decode cX10_write 36 = .ok (.iastore, 1) := by decide +kernel
theorem dX10_write_37 : decode cX10_write 37 = .ok (.aload_n 0, 1) := by decide +kernel
theorem dX10_write_38 : decode cX10_write 38 = .ok (.dup, 1) := by decide +kernel
theorem dX10_write_39 : decode cX10_write 39 = .ok (.getfield 80, 3) := by decide +kernel
theorem dX10_write_42 : decode cX10_write 42 = .ok (.iconst 1, 1) := by decide +kernel
theorem dX10_write_43 : decode cX10_write 43 = .ok (.iadd, 1) := by decide +kernel
theorem dX10_write_44 : decode cX10_write 44 = .ok (.putfield 80, 3) := by decide +kernel
theorem dX10_write_47 : decode cX10_write 47 = .ok (.aload_n 0, 1) := by decide +kernel
theorem dX10_write_48 : decode cX10_write 48 = .ok (.getfield 80, 3) := by decide +kernel
theorem dX10_write_51 : decode cX10_write 51 = .ok (.ireturn, 1) := by decide +kernel
theorem dX10_wipe_0 : decode cX10_wipe 0 = .ok (.aload_n 0, 1) := by decide +kernel
theorem dX10_wipe_1 : decode cX10_wipe 1 = .ok (.getfield 80, 3) := by decide +kernel
theorem dX10_wipe_4 : decode cX10_wipe 4 = .ok (.istore_n 1, 1) := by decide +kernel
theorem dX10_wipe_5 : decode cX10_wipe 5 = .ok (.aload_n 0, 1) := by decide +kernel
theorem dX10_wipe_6 : decode cX10_wipe 6 = .ok (.iconst 0, 1) := by decide +kernel
theorem dX10_wipe_7 : decode cX10_wipe 7 = .ok (.putfield 80, 3) := by decide +kernel
theorem dX10_wipe_10 : decode cX10_wipe 10 = .ok (.iload_n 1, 1) := by decide +kernel
theorem dX10_wipe_11 : decode cX10_wipe 11 = .ok (.ireturn, 1) := by decide +kernel
theorem dX10_kindOf_0 : decode cX10_kindOf 0 = .ok (.iload_n 0, 1) := by decide +kernel
theorem dX10_kindOf_1 : decode cX10_kindOf 1 = .ok (.lookupswitch 61 #[(38, 51), (110, 55), (111, 57), (124, 53), (126, 59)], 51) := by decide +kernel
theorem dX10_kindOf_52 : decode cX10_kindOf 52 = .ok (.iconst 0, 1) := by decide +kernel
theorem dX10_kindOf_53 : decode cX10_kindOf 53 = .ok (.ireturn, 1) := by decide +kernel
theorem dX10_kindOf_54 : decode cX10_kindOf 54 = .ok (.iconst 1, 1) := by decide +kernel
theorem dX10_kindOf_55 : decode cX10_kindOf 55 = .ok (.ireturn, 1) := by decide +kernel
theorem dX10_kindOf_56 : decode cX10_kindOf 56 = .ok (.iconst 2, 1) := by decide +kernel
theorem dX10_kindOf_57 : decode cX10_kindOf 57 = .ok (.ireturn, 1) := by decide +kernel
theorem dX10_kindOf_58 : decode cX10_kindOf 58 = .ok (.iconst 3, 1) := by decide +kernel
theorem dX10_kindOf_59 : decode cX10_kindOf 59 = .ok (.ireturn, 1) := by decide +kernel
theorem dX10_kindOf_60 : decode cX10_kindOf 60 = .ok (.iconst 4, 1) := by decide +kernel
theorem dX10_kindOf_61 : decode cX10_kindOf 61 = .ok (.ireturn, 1) := by decide +kernel
theorem dX10_kindOf_62 : decode cX10_kindOf 62 = .ok (.bipush (-9), 2) := by decide +kernel
theorem dX10_kindOf_64 : decode cX10_kindOf 64 = .ok (.ireturn, 1) := by decide +kernel
set_option maxRecDepth 20000 in
theorem ggX10_signalAt_X10_in : GoodIn wsX10_signalAt wsX10_in := goodIn_r _ [10] (by decide +kernel) (by decide +kernel)
set_option maxRecDepth 20000 in
theorem gX10_signalAt_X10_in : GoodIn wsX10_signalAt (va_wsS RX10 76 yX10_in wsX10_in) := goodIn_app (goodIn_of _ (by decide +kernel)) ggX10_signalAt_X10_in
theorem dX10_signalAt_0 : decode cX10_signalAt 0 = .ok (.iload_n 1, 1) := by decide +kernel
theorem dX10_signalAt_1 : decode cX10_signalAt 1 = .ok (.aload_n 0, 1) := by decide +kernel
theorem dX10_signalAt_2 : decode cX10_signalAt 2 = .ok (.getfield 80, 3) := by decide +kernel
theorem dX10_signalAt_5 : decode cX10_signalAt 5 = .ok (.if_icmp .ge 37, 3) := by decide +kernel
theorem dX10_signalAt_8 : decode cX10_signalAt 8 = .ok (.aload_n 0, 1) := by decide +kernel
theorem dX10_signalAt_9 : decode cX10_signalAt 9 = .ok (.getfield 31, 3) := by decide +kernel
theorem dX10_signalAt_12 : decode cX10_signalAt 12 = .ok (.iload_n 1, 1) := by decide +kernel
theorem dX10_signalAt_13 : decode cX10_signalAt 13 = .ok (.iaload, 1) := by decide +kernel
theorem dX10_signalAt_14 : decode cX10_signalAt 14 = .ok (.i2l, 1) := by decide +kernel
theorem dX10_signalAt_15 : decode cX10_signalAt 15 = .ok (.ldc2_w 84, 3) := by decide +kernel
theorem dX10_signalAt_18 : decode cX10_signalAt 18 = .ok (.bipush 96, 2) := by decide +kernel
theorem dX10_signalAt_20 : decode cX10_signalAt 20 = .ok (.aload_n 0, 1) := by decide +kernel
theorem dX10_signalAt_21 : decode cX10_signalAt 21 = .ok (.getfield 86, 3) := by decide +kernel
theorem dX10_signalAt_24 : decode cX10_signalAt 24 = .ok (.iadd, 1) := by decide +kernel
theorem dX10_signalAt_25 : decode cX10_signalAt 25 = .ok (.i2l, 1) := by decide +kernel
theorem dX10_signalAt_26 : decode cX10_signalAt 26 = .ok (.invokestatic 76, 3) := by decide +kernel
theorem dX10_signalAt_29 : decode cX10_signalAt 29 = .ok (.ifCond .eq 13, 3) := by decide +kernel
theorem dX10_signalAt_32 : decode cX10_signalAt 32 = .ok (.aload_n 0, 1) := by decide +kernel
theorem dX10_signalAt_33 : decode cX10_signalAt 33 = .ok (.getfield 31, 3) := by decide +kernel
theorem dX10_signalAt_36 : decode cX10_signalAt 36 = .ok (.iload_n 1, 1) := by decide +kernel
theorem dX10_signalAt_37 : decode cX10_signalAt 37 = .ok (.iaload, 1) := by decide +kernel
theorem dX10_signalAt_38 : decode cX10_signalAt 38 = .ok (.bipush 97, 2) := by decide +kernel
theorem dX10_signalAt_40 : decode cX10_signalAt 40 = .ok (.isub, 1) := by decide +kernel
theorem dX10_signalAt_41 : decode cX10_signalAt 41 = .ok (.ireturn, 1) := by decide +kernel
theorem dX10_signalAt_42 : decode cX10_signalAt 42 = .ok (.iload_n 1, 1) := by decide +kernel
theorem dX10_signalAt_43 : decode cX10_signalAt 43 = .ok (.aload_n 0, 1) := by decide +kernel
theorem dX10_signalAt_44 : decode cX10_signalAt 44 = .ok (.getfield 80, 3) := by decide +kernel
theorem dX10_signalAt_47 : decode cX10_signalAt 47 = .ok (.if_icmp .ge 41, 3) := by decide +kernel
theorem dX10_signalAt_50 : decode cX10_signalAt 50 = .ok (.aload_n 0, 1) := by decide +kernel
theorem dX10_signalAt_51 : decode cX10_signalAt 51 = .ok (.getfield 31, 3) := by decide +kernel
theorem dX10_signalAt_54 : decode cX10_signalAt 54 = .ok (.iload_n 1, 1) := by decide +kernel
theorem dX10_signalAt_55 : decode cX10_signalAt 55 = .ok (.iaload, 1) := by decide +kernel
theorem dX10_signalAt_56 : decode cX10_signalAt 56 = .ok (.i2l, 1) := by decide +kernel
theorem dX10_signalAt_57 : decode cX10_signalAt 57 = .ok (.ldc2_w 89, 3) := by decide +kernel
theorem dX10_signalAt_60 : decode cX10_signalAt 60 = .ok (.bipush 47, 2) := by decide +kernel
theorem dX10_signalAt_62 : decode cX10_signalAt 62 = .ok (.aload_n 0, 1) := by decide +kernel
theorem dX10_signalAt_63 : decode cX10_signalAt 63 = .ok (.getfield 91, 3) := by decide +kernel
theorem dX10_signalAt_66 : decode cX10_signalAt 66 = .ok (.iadd, 1) := by decide +kernel
theorem dX10_signalAt_67 : decode cX10_signalAt 67 = .ok (.i2l, 1) := by decide +kernel
theorem dX10_signalAt_68 : decode cX10_signalAt 68 = .ok (.invokestatic 76, 3) := by decide +kernel
theorem dX10_signalAt_71 : decode cX10_signalAt 71 = .ok (.ifCond .eq 17, 3) := by decide +kernel
theorem dX10_signalAt_74 : decode cX10_signalAt 74 = .ok (.iconst 4, 1) := by decide +kernel
theorem dX10_signalAt_75 : decode cX10_signalAt 75 = .ok (.aload_n 0, 1) := by decide +kernel
theorem dX10_signalAt_76 : decode cX10_signalAt 76 = .ok (.getfield 31, 3) := by decide +kernel
theorem dX10_signalAt_79 : decode cX10_signalAt 79 = .ok (.iload_n 1, 1) := by decide +kernel
theorem dX10_signalAt_80 : decode cX10_signalAt 80 = .ok (.iaload, 1) := by decide +kernel
theorem dX10_signalAt_81 : decode cX10_signalAt 81 = .ok (.iadd, 1) := by decide +kernel
theorem dX10_signalAt_82 : decode cX10_signalAt 82 = .ok (.bipush 48, 2) := by decide +kernel
theorem dX10_signalAt_84 : decode cX10_signalAt 84 = .ok (.isub, 1) := by decide +kernel
theorem dX10_signalAt_85 : decode cX10_signalAt 85 = .ok (.goto 5, 3) := by decide +kernel
theorem dX10_signalAt_88 : decode cX10_signalAt 88 = .ok (.bipush (-9), 2) := by decide +kernel
theorem dX10_signalAt_90 : decode cX10_signalAt 90 = .ok (.ireturn, 1) := by decide +kernel
set_option maxRecDepth 20000 in
theorem ggX10_readText_X10_in : GoodIn wsX10_readText wsX10_in := goodIn_r _ [13] (by decide +kernel) (by decide +kernel)
set_option maxRecDepth 20000 in
theorem gX10_readText_X10_in : GoodIn wsX10_readText (va_wsS RX10 76 yX10_in wsX10_in) := goodIn_app (goodIn_of _ (by decide +kernel)) ggX10_readText_X10_in
set_option maxRecDepth 20000 in
theorem ggX10_readText_X10_kindOf : GoodIn wsX10_readText wsX10_kindOf := goodIn_r _ [16] (by decide +kernel) (by decide +kernel)
set_option maxRecDepth 20000 in
theorem gX10_readText_X10_kindOf : GoodIn wsX10_readText (va_wsS RX10 98 yX10_kindOf wsX10_kindOf) := goodIn_app (goodIn_of _ (by decide +kernel)) ggX10_readText_X10_kindOf
set_option maxRecDepth 20000 in
theorem ggX10_readText_X10_signalAt : GoodIn wsX10_readText wsX10_signalAt := goodIn_r _ [20, 3, 4, 21, 2, 22, 1, 10, 11, 12, 13, 28, 29, 30, 31, 32, 33, 34, 35, 36, 37, 38, 39, 40, 41, 42, 43, 44, 45, 46, 47, 48, 49, 50, 51, 52, 53, 54, 55, 56, 57, 58] (by decide +kernel) (by decide +kernel)
set_option maxRecDepth 20000 in
theorem gX10_readText_X10_signalAt : GoodIn wsX10_readText (wsV RX10 102 RX10 yX10_signalAt wsX10_signalAt) := goodIn_app (goodIn_of _ (by decide +kernel)) ggX10_readText_X10_signalAt
set_option maxRecDepth 20000 in
theorem ggX10_readText_X10_readEnd : GoodIn wsX10_readText wsX10_readEnd := goodIn_r _ [26, 2, 27, 3, 17, 18, 19, 12, 20, 4, 21, 22, 1, 10, 11, 13, 28, 29, 30, 31, 32, 33, 34, 35, 36, 37, 38, 39, 40, 41, 42, 43, 44, 45, 46, 47, 48, 49, 50, 51, 52, 53, 54, 55, 56, 57, 58] (by decide +kernel) (by decide +kernel)
set_option maxRecDepth 20000 in
theorem gX10_readText_X10_readEnd : GoodIn wsX10_readText (wsV RX10 105 RX10 yX10_readEnd wsX10_readEnd) := goodIn_app (goodIn_of _ (by decide +kernel)) ggX10_readText_X10_readEnd
theorem dX10_readText_0 : decode cX10_readText 0 = .ok (.aload_n 0, 1) := by decide +kernel
theorem dX10_readText_1 : decode cX10_readText 1 = .ok (.iconst 0, 1) := by decide +kernel
theorem dX10_readText_2 : decode cX10_readText 2 = .ok (.putfield 91, 3) := by decide +kernel
theorem dX10_readText_5 : decode cX10_readText 5 = .ok (.aload_n 0, 1) := by decide +kernel
theorem dX10_readText_6 : decode cX10_readText 6 = .ok (.iconst 0, 1) := by decide +kernel
theorem dX10_readText_7 : decode cX10_readText 7 = .ok (.putfield 86, 3) := by decide +kernel
theorem dX10_readText_10 : decode cX10_readText 10 = .ok (.aload_n 0, 1) := by decide +kernel
theorem dX10_readText_11 : decode cX10_readText 11 = .ok (.getfield 80, 3) := by decide +kernel
theorem dX10_readText_14 : decode cX10_readText 14 = .ok (.ifCond .eq 14, 3) := by decide +kernel
theorem dX10_readText_17 : decode cX10_readText 17 = .ok (.aload_n 0, 1) := by decide +kernel
theorem dX10_readText_18 : decode cX10_readText 18 = .ok (.getfield 31, 3) := by decide +kernel
theorem dX10_readText_21 : decode cX10_readText 21 = .ok (.iconst 0, 1) := by decide +kernel
theorem dX10_readText_22 : decode cX10_readText 22 = .ok (.iaload, 1) := by decide +kernel
theorem dX10_readText_23 : decode cX10_readText 23 = .ok (.bipush 67, 2) := by decide +kernel
theorem dX10_readText_25 : decode cX10_readText 25 = .ok (.if_icmp .eq 5, 3) := by decide +kernel
theorem dX10_readText_28 : decode cX10_readText 28 = .ok (.iconst 0, 1) := by decide +kernel
theorem dX10_readText_29 : decode cX10_readText 29 = .ok (.ireturn, 1) := by decide +kernel
theorem dX10_readText_30 : decode cX10_readText 30 = .ok (.aload_n 0, 1) := by decide +kernel
theorem dX10_readText_31 : decode cX10_readText 31 = .ok (.getfield 80, 3) := by decide +kernel
theorem dX10_readText_34 : decode cX10_readText 34 = .ok (.iconst 1, 1) := by decide +kernel
theorem dX10_readText_35 : decode cX10_readText 35 = .ok (.if_icmp .eq 22, 3) := by decide +kernel
theorem dX10_readText_38 : decode cX10_readText 38 = .ok (.aload_n 0, 1) := by decide +kernel
theorem dX10_readText_39 : decode cX10_readText 39 = .ok (.getfield 31, 3) := by decide +kernel
theorem dX10_readText_42 : decode cX10_readText 42 = .ok (.iconst 1, 1) := by decide +kernel
theorem dX10_readText_43 : decode cX10_readText 43 = .ok (.iaload, 1) := by decide +kernel
theorem dX10_readText_44 : decode cX10_readText 44 = .ok (.i2l, 1) := by decide +kernel
theorem dX10_readText_45 : decode cX10_readText 45 = .ok (.ldc2_w 94, 3) := by decide +kernel
theorem dX10_readText_48 : decode cX10_readText 48 = .ok (.ldc2_w 96, 3) := by decide +kernel
theorem dX10_readText_51 : decode cX10_readText 51 = .ok (.invokestatic 76, 3) := by decide +kernel
theorem dX10_readText_54 : decode cX10_readText 54 = .ok (.ifCond .ne 5, 3) := by decide +kernel
theorem dX10_readText_57 : decode cX10_readText 57 = .ok (.iconst 1, 1) := by decide +kernel
theorem dX10_readText_58 : decode cX10_readText 58 = .ok (.ireturn, 1) := by decide +kernel
theorem dX10_readText_59 : decode cX10_readText 59 = .ok (.aload_n 0, 1) := by decide +kernel
theorem dX10_readText_60 : decode cX10_readText 60 = .ok (.aload_n 0, 1) := by decide +kernel
theorem dX10_readText_61 : decode cX10_readText 61 = .ok (.getfield 31, 3) := by decide +kernel
theorem dX10_readText_64 : decode cX10_readText 64 = .ok (.iconst 1, 1) := by decide +kernel
theorem dX10_readText_65 : decode cX10_readText 65 = .ok (.iaload, 1) := by decide +kernel
theorem dX10_readText_66 : decode cX10_readText 66 = .ok (.bipush 48, 2) := by decide +kernel
theorem dX10_readText_68 : decode cX10_readText 68 = .ok (.isub, 1) := by decide +kernel
theorem dX10_readText_69 : decode cX10_readText 69 = .ok (.putfield 86, 3) := by decide +kernel
theorem dX10_readText_72 : decode cX10_readText 72 = .ok (.iconst 2, 1) := by decide +kernel
theorem dX10_readText_73 : decode cX10_readText 73 = .ok (.istore_n 1, 1) := by decide +kernel
theorem dX10_readText_74 : decode cX10_readText 74 = .ok (.iload_n 1, 1) := by decide +kernel
theorem dX10_readText_75 : decode cX10_readText 75 = .ok (.aload_n 0, 1) := by decide +kernel
theorem dX10_readText_76 : decode cX10_readText 76 = .ok (.getfield 80, 3) := by decide +kernel
theorem dX10_readText_79 : decode cX10_readText 79 = .ok (.if_icmp .ge 192, 3) := by decide +kernel
theorem dX10_readText_82 : decode cX10_readText 82 = .ok (.aload_n 0, 1) := by decide +kernel
theorem dX10_readText_83 : decode cX10_readText 83 = .ok (.getfield 31, 3) := by decide +kernel
theorem dX10_readText_86 : decode cX10_readText 86 = .ok (.iload_n 1, 1) := by decide +kernel
theorem dX10_readText_87 : decode cX10_readText 87 = .ok (.iaload, 1) := by decide +kernel
theorem dX10_readText_88 : decode cX10_readText 88 = .ok (.bipush 62, 2) := by decide +kernel
theorem dX10_readText_90 : decode cX10_readText 90 = .ok (.if_icmp .eq 181, 3) := by decide +kernel
theorem dX10_readText_93 : decode cX10_readText 93 = .ok (.aload_n 0, 1) := by decide +kernel
theorem dX10_readText_94 : decode cX10_readText 94 = .ok (.getfield 31, 3) := by decide +kernel
theorem dX10_readText_97 : decode cX10_readText 97 = .ok (.iload_n 1, 1) := by decide +kernel
theorem dX10_readText_98 : decode cX10_readText 98 = .ok (.iaload, 1) := by decide +kernel
theorem dX10_readText_99 : decode cX10_readText 99 = .ok (.invokestatic 98, 3) := by decide +kernel
theorem dX10_readText_102 : decode cX10_readText 102 = .ok (.istore_n 2, 1) := by decide +kernel
theorem dX10_readText_103 : decode cX10_readText 103 = .ok (.iload_n 2, 1) := by decide +kernel
theorem dX10_readText_104 : decode cX10_readText 104 = .ok (.iconst 4, 1) := by decide +kernel
theorem dX10_readText_105 : decode cX10_readText 105 = .ok (.if_icmp .eq 20, 3) := by decide +kernel
theorem dX10_readText_108 : decode cX10_readText 108 = .ok (.aload_n 0, 1) := by decide +kernel
theorem dX10_readText_109 : decode cX10_readText 109 = .ok (.getfield 86, 3) := by decide +kernel
theorem dX10_readText_112 : decode cX10_readText 112 = .ok (.aload_n 0, 1) := by decide +kernel
theorem dX10_readText_113 : decode cX10_readText 113 = .ok (.getfield 91, 3) := by decide +kernel
theorem dX10_readText_116 : decode cX10_readText 116 = .ok (.iadd, 1) := by decide +kernel
theorem dX10_readText_117 : decode cX10_readText 117 = .ok (.iconst 2, 1) := by decide +kernel
theorem dX10_readText_118 : decode cX10_readText 118 = .ok (.if_icmp .ge 7, 3) := by decide +kernel
theorem dX10_readText_121 : decode cX10_readText 121 = .ok (.iconst 1, 1) := by decide +kernel
theorem dX10_readText_122 : decode cX10_readText 122 = .ok (.goto 4, 3) := by decide +kernel
theorem dX10_readText_125 : decode cX10_readText 125 = .ok (.iconst 0, 1) := by decide +kernel
theorem dX10_readText_126 : decode cX10_readText 126 = .ok (.istore_n 3, 1) := by decide +kernel
theorem dX10_readText_127 : decode cX10_readText 127 = .ok (.iload_n 2, 1) := by decide +kernel
theorem dX10_readText_128 : decode cX10_readText 128 = .ok (.bipush (-9), 2) := by decide +kernel
theorem dX10_readText_130 : decode cX10_readText 130 = .ok (.if_icmp .eq 16, 3) := by decide +kernel
theorem dX10_readText_133 : decode cX10_readText 133 = .ok (.iload_n 3, 1) := by decide +kernel
theorem dX10_readText_134 : decode cX10_readText 134 = .ok (.ifCond .ne 12, 3) := by decide +kernel
theorem dX10_readText_137 : decode cX10_readText 137 = .ok (.aload_n 0, 1) := by decide +kernel
theorem dX10_readText_138 : decode cX10_readText 138 = .ok (.getfield 91, 3) := by decide +kernel
theorem dX10_readText_141 : decode cX10_readText 141 = .ok (.bipush 8, 2) := by decide +kernel
theorem dX10_readText_143 : decode cX10_readText 143 = .ok (.if_icmp .ne 5, 3) := by decide +kernel
theorem dX10_readText_146 : decode cX10_readText 146 = .ok (.iload_n 1, 1) := by decide +kernel
theorem dX10_readText_147 : decode cX10_readText 147 = .ok (.ireturn, 1) := by decide +kernel
theorem dX10_readText_148 : decode cX10_readText 148 = .ok (.aload_n 0, 1) := by decide +kernel
theorem dX10_readText_149 : decode cX10_readText 149 = .ok (.iload_n 1, 1) := by decide +kernel
theorem dX10_readText_150 : decode cX10_readText 150 = .ok (.iconst 1, 1) := by decide +kernel
theorem dX10_readText_151 : decode cX10_readText 151 = .ok (.iadd, 1) := by decide +kernel
theorem dX10_readText_152 : decode cX10_readText 152 = .ok (.invokevirtual 102, 3) := by decide +kernel
theorem dX10_readText_155 : decode cX10_readText 155 = .ok (.istore 4, 2) := by decide +kernel
theorem dX10_readText_157 : decode cX10_readText 157 = .ok (.iload 4, 2) := by decide +kernel
theorem dX10_readText_159 : decode cX10_readText 159 = .ok (.bipush (-9), 2) := by decide +kernel
theorem dX10_readText_161 : decode cX10_readText 161 = .ok (.if_icmp .ne 7, 3) := by decide +kernel
theorem dX10_readText_164 : decode cX10_readText 164 = .ok (.iload_n 1, 1) := by decide +kernel
theorem dX10_readText_165 : decode cX10_readText 165 = .ok (.iconst 1, 1) := by decide +kernel
theorem dX10_readText_166 : decode cX10_readText 166 = .ok (.iadd, 1) := by decide +kernel
theorem dX10_readText_167 : decode cX10_readText 167 = .ok (.ireturn, 1) := by decide +kernel
theorem dX10_readText_168 : decode cX10_readText 168 = .ok (.iload_n 2, 1) := by decide +kernel
theorem dX10_readText_169 : decode cX10_readText 169 = .ok (.iconst 4, 1) := by decide +kernel
theorem dX10_readText_170 : decode cX10_readText 170 = .ok (.if_icmp .ne 8, 3) := by decide +kernel
theorem dX10_readText_173 : decode cX10_readText 173 = .ok (.bipush (-9), 2) := by decide +kernel
theorem dX10_readText_175 : decode cX10_readText 175 = .ok (.goto 10, 3) := by decide +kernel
theorem dX10_readText_178 : decode cX10_readText 178 = .ok (.aload_n 0, 1) := by decide +kernel
theorem dX10_readText_179 : decode cX10_readText 179 = .ok (.iload_n 1, 1) := by decide +kernel
theorem dX10_readText_180 : decode cX10_readText 180 = .ok (.iconst 2, 1) := by decide +kernel
theorem dX10_readText_181 : decode cX10_readText 181 = .ok (.iadd, 1) := by decide +kernel
theorem dX10_readText_182 : decode cX10_readText 182 = .ok (.invokevirtual 102, 3) := by decide +kernel
theorem dX10_readText_185 : decode cX10_readText 185 = .ok (.istore 5, 2) := by decide +kernel
theorem dX10_readText_187 : decode cX10_readText 187 = .ok (.iload_n 2, 1) := by decide +kernel
theorem dX10_readText_188 : decode cX10_readText 188 = .ok (.iconst 4, 1) := by decide +kernel
theorem dX10_readText_189 : decode cX10_readText 189 = .ok (.if_icmp .eq 21, 3) := by decide +kernel
theorem dX10_readText_192 : decode cX10_readText 192 = .ok (.iload 5, 2) := by decide +kernel
theorem dX10_readText_194 : decode cX10_readText 194 = .ok (.bipush (-9), 2) := by decide +kernel
theorem dX10_readText_196 : decode cX10_readText 196 = .ok (.if_icmp .eq 10, 3) := by decide +kernel
theorem dX10_readText_199 : decode cX10_readText 199 = .ok (.iload 5, 2) := by decide +kernel
theorem dX10_readText_201 : decode cX10_readText 201 = .ok (.iload 4, 2) := by decide +kernel
theorem dX10_readText_203 : decode cX10_readText 203 = .ok (.if_icmp .ne 7, 3) := by decide +kernel
theorem dX10_readText_206 : decode cX10_readText 206 = .ok (.iload_n 1, 1) := by decide +kernel
theorem dX10_readText_207 : decode cX10_readText 207 = .ok (.iconst 2, 1) := by decide +kernel
theorem dX10_readText_208 : decode cX10_readText 208 = .ok (.iadd, 1) := by decide +kernel
theorem dX10_readText_209 : decode cX10_readText 209 = .ok (.ireturn, 1) := by decide +kernel
theorem dX10_readText_210 : decode cX10_readText 210 = .ok (.aload_n 0, 1) := by decide +kernel
theorem dX10_readText_211 : decode cX10_readText 211 = .ok (.getfield 7, 3) := by decide +kernel
theorem dX10_readText_214 : decode cX10_readText 214 = .ok (.bipush 16, 2) := by decide +kernel
theorem dX10_readText_216 : decode cX10_readText 216 = .ok (.aload_n 0, 1) := by decide +kernel
theorem dX10_readText_217 : decode cX10_readText 217 = .ok (.getfield 91, 3) := by decide +kernel
theorem dX10_readText_220 : decode cX10_readText 220 = .ok (.iadd, 1) := by decide +kernel
theorem dX10_readText_221 : decode cX10_readText 221 = .ok (.iload_n 2, 1) := by decide +kernel
theorem dX10_readText_222 : decode cX10_readText 222 = .ok (.iastore, 1) := by decide +kernel
theorem dX10_readText_223 : decode cX10_readText 223 = .ok (.aload_n 0, 1) := by decide +kernel
theorem dX10_readText_224 : decode cX10_readText 224 = .ok (.getfield 22, 3) := by decide +kernel
theorem dX10_readText_227 : decode cX10_readText 227 = .ok (.aload_n 0, 1) := by decide +kernel
theorem dX10_readText_228 : decode cX10_readText 228 = .ok (.getfield 91, 3) := by decide +kernel
theorem dX10_readText_231 : decode cX10_readText 231 = .ok (.iload 4, 2) := by decide +kernel
theorem dX10_readText_233 : decode cX10_readText 233 = .ok (.iastore, 1) := by decide +kernel
theorem dX10_readText_234 : decode cX10_readText 234 = .ok (.aload_n 0, 1) := by decide +kernel
theorem dX10_readText_235 : decode cX10_readText 235 = .ok (.getfield 25, 3) := by decide +kernel
theorem dX10_readText_238 : decode cX10_readText 238 = .ok (.aload_n 0, 1) := by decide +kernel
theorem dX10_readText_239 : decode cX10_readText 239 = .ok (.getfield 91, 3) := by decide +kernel

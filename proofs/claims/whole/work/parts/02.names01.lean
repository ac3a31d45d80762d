theorem dX0_init_0 : decode cX0_init 0 = .ok (.aload_n 0, 1) := by decide +kernel
theorem dX0_init_1 : decode cX0_init 1 = .ok (.invokespecial 3, 3) := by decide +kernel
theorem dX0_init_4 : decode cX0_init 4 = .ok (.aload_n 0, 1) := by decide +kernel
theorem dX0_init_5 : decode cX0_init 5 = .ok (.bipush 14, 2) := by decide +kernel
theorem dX0_init_7 : decode cX0_init 7 = .ok (.newarray .int, 2) := by decide +kernel
theorem dX0_init_9 : decode cX0_init 9 = .ok (.putfield 9, 3) := by decide +kernel
theorem dX0_init_12 : decode cX0_init 12 = .ok (.aload_n 0, 1) := by decide +kernel
theorem dX0_init_13 : decode cX0_init 13 = .ok (.bipush 14, 2) := by decide +kernel
theorem dX0_init_15 : decode cX0_init 15 = .ok (.newarray .boolean, 2) := by decide +kernel
theorem dX0_init_17 : decode cX0_init 17 = .ok (.putfield 15, 3) := by decide +kernel
theorem dX0_init_20 : decode cX0_init 20 = .ok (.aload_n 0, 1) := by decide +kernel
theorem dX0_init_21 : decode cX0_init 21 = .ok (.bipush 14, 2) := by decide +kernel
theorem dX0_init_23 : decode cX0_init 23 = .ok (.newarray .int, 2) := by decide +kernel
theorem dX0_init_25 : decode cX0_init 25 = .ok (.putfield 19, 3) := by decide +kernel
theorem dX0_init_28 : decode cX0_init 28 = .ok (.aload_n 0, 1) := by decide +kernel
theorem dX0_init_29 : decode cX0_init 29 = .ok (.iconst 0, 1) := by decide +kernel
theorem dX0_init_30 : decode cX0_init 30 = .ok (.putfield 22, 3) := by decide +kernel
theorem dX0_init_33 : decode cX0_init 33 = .ok (.return_, 1) := by decide +kernel
set_option maxRecDepth 20000 in
theorem ggX0_add_X0_forgetFirst : GoodIn wsX0_add wsX0_forgetFirst := goodIn_r _ [9, 2, 3, 4, 1, 10, 11, 12, 13] (by decide +kernel) (by decide +kernel)
set_option maxRecDepth 20000 in
theorem gX0_add_X0_forgetFirst : GoodIn wsX0_add (wsV RX0 26 RX0 yX0_forgetFirst wsX0_forgetFirst) := goodIn_app (goodIn_of _ (by decide +kernel)) ggX0_add_X0_forgetFirst
theorem dX0_add_0 : decode cX0_add 0 = .ok (.aload_n 0, 1) := by decide +kernel
theorem dX0_add_1 : decode cX0_add 1 = .ok (.getfield 22, 3) := by decide +kernel
theorem dX0_add_4 : decode cX0_add 4 = .ok (.bipush 14, 2) := by decide +kernel
theorem dX0_add_6 : decode cX0_add 6 = .ok (.if_icmp .lt 7, 3) := by decide +kernel
theorem dX0_add_9 : decode cX0_add 9 = .ok (.aload_n 0, 1) := by decide +kernel
theorem dX0_add_10 : decode cX0_add 10 = .ok (.invokevirtual 26, 3) := by decide +kernel
theorem dX0_add_13 : decode cX0_add 13 = .ok (.aload_n 0, 1) := by decide +kernel
theorem dX0_add_14 : decode cX0_add 14 = .ok (.getfield 9, 3) := by decide +kernel
theorem dX0_add_17 : decode cX0_add 17 = .ok (.aload_n 0, 1) := by decide +kernel
theorem dX0_add_18 : decode cX0_add 18 = .ok (.getfield 22, 3) := by decide +kernel
theorem dX0_add_21 : decode cX0_add 21 = .ok (.iload_n 1, 1) := by decide +kernel
theorem dX0_add_22 : decode cX0_add 22 = .ok (.iastore, 1) := by decide +kernel
theorem dX0_add_23 : decode cX0_add 23 = .ok (.aload_n 0, 1) := by decide +kernel
theorem dX0_add_24 : decode cX0_add 24 = .ok (.getfield 15, 3) := by decide +kernel
theorem dX0_add_27 : decode cX0_add 27 = .ok (.aload_n 0, 1) := by decide +kernel
theorem dX0_add_28 : decode cX0_add 28 = .ok (.getfield 22, 3) := by decide +kernel
theorem dX0_add_31 : decode cX0_add 31 = .ok (.iload_n 2, 1) := by decide +kernel
theorem dX0_add_32 : decode cX0_add 32 = .ok (.bastore, 1) := by decide +kernel
theorem dX0_add_33 : decode cX0_add 33 = .ok (.aload_n 0, 1) := by decide +kernel
theorem dX0_add_34 : decode cX0_add 34 = .ok (.getfield 19, 3) := by decide +kernel
theorem dX0_add_37 : decode cX0_add 37 = .ok (.aload_n 0, 1) := by decide +kernel
theorem dX0_add_38 : decode cX0_add 38 = .ok (.getfield 22, 3) := by decide +kernel
theorem dX0_add_41 : decode cX0_add 41 = .ok (.iload_n 3, 1) := by decide +kernel
theorem dX0_add_42 : decode cX0_add 42 = .ok (.iastore, 1) := by decide +kernel
theorem dX0_add_43 : decode cX0_add 43 = .ok (.aload_n 0, 1) := by decide +kernel
theorem dX0_add_44 : decode cX0_add 44 = .ok (.dup, 1) := by decide +kernel
theorem dX0_add_45 : decode cX0_add 45 = .ok (.getfield 22, 3) := by decide +kernel
theorem dX0_add_48 : decode cX0_add 48 = .ok (.iconst 1, 1) := by decide +kernel
theorem dX0_add_49 : decode cX0_add 49 = .ok (.iadd, 1) := by decide +kernel
theorem dX0_add_50 : decode cX0_add 50 = .ok (.putfield 22, 3) := by decide +kernel
theorem dX0_add_53 : decode cX0_add 53 = .ok (.return_, 1) := by decide +kernel
theorem dX0_forgetFirst_0 : decode cX0_forgetFirst 0 = .ok (.iconst 1, 1) := by decide +kernel
theorem dX0_forgetFirst_1 : decode cX0_forgetFirst 1 = .ok (.istore_n 1, 1) := by decide +kernel
theorem dX0_forgetFirst_2 : decode cX0_forgetFirst 2 = .ok (.iload_n 1, 1) := by decide +kernel
theorem dX0_forgetFirst_3 : decode cX0_forgetFirst 3 = .ok (.bipush 14, 2) := by decide +kernel
theorem dX0_forgetFirst_5 : decode cX0_forgetFirst 5 = .ok (.if_icmp .ge 51, 3) := by decide +kernel
theorem dX0_forgetFirst_8 : decode cX0_forgetFirst 8 = .ok (.aload_n 0, 1) := by decide +kernel
theorem dX0_forgetFirst_9 : decode cX0_forgetFirst 9 = .ok (.getfield 9, 3) := by decide +kernel
theorem dX0_forgetFirst_12 : decode cX0_forgetFirst 12 = .ok (.iload_n 1, 1) := by decide +kernel
theorem dX0_forgetFirst_13 : decode cX0_forgetFirst 13 = .ok (.iconst 1, 1) := by decide +kernel
theorem dX0_forgetFirst_14 : decode cX0_forgetFirst 14 = .ok (.isub, 1) := by decide +kernel
theorem dX0_forgetFirst_15 : decode cX0_forgetFirst 15 = .ok (.aload_n 0, 1) := by decide +kernel
theorem dX0_forgetFirst_16 : decode cX0_forgetFirst 16 = .ok (.getfield 9, 3) := by decide +kernel
theorem dX0_forgetFirst_19 : decode cX0_forgetFirst 19 = .ok (.iload_n 1, 1) := by decide +kernel
theorem dX0_forgetFirst_20 : decode cX0_forgetFirst 20 = .ok (.iaload, 1) := by decide +kernel
theorem dX0_forgetFirst_21 : decode cX0_forgetFirst 21 = .ok (.iastore, 1) := by decide +kernel
theorem dX0_forgetFirst_22 : decode cX0_forgetFirst 22 = .ok (.aload_n 0, 1) := by decide +kernel
theorem dX0_forgetFirst_23 : decode cX0_forgetFirst 23 = .ok (.getfield 15, 3) := by decide +kernel
theorem dX0_forgetFirst_26 : decode cX0_forgetFirst 26 = .ok (.iload_n 1, 1) := by decide +kernel
theorem dX0_forgetFirst_27 : decode cX0_forgetFirst 27 = .ok (.iconst 1, 1) := by decide +kernel
theorem dX0_forgetFirst_28 : decode cX0_forgetFirst 28 = .ok (.isub, 1) := by decide +kernel
theorem dX0_forgetFirst_29 : decode cX0_forgetFirst 29 = .ok (.aload_n 0, 1) := by decide +kernel
theorem dX0_forgetFirst_30 : decode cX0_forgetFirst 30 = .ok (.getfield 15, 3) := by decide +kernel
theorem dX0_forgetFirst_33 : decode cX0_forgetFirst 33 = .ok (.iload_n 1, 1) := by decide +kernel
theorem dX0_forgetFirst_34 : decode cX0_forgetFirst 34 = .ok (.baload, 1) := by decide +kernel
theorem dX0_forgetFirst_35 : decode cX0_forgetFirst 35 = .ok (.bastore, 1) := by decide +kernel
theorem dX0_forgetFirst_36 : decode cX0_forgetFirst 36 = .ok (.aload_n 0, 1) := by decide +kernel
theorem dX0_forgetFirst_37 : decode cX0_forgetFirst 37 = .ok (.getfield 19, 3) := by decide +kernel
theorem dX0_forgetFirst_40 : decode cX0_forgetFirst 40 = .ok (.iload_n 1, 1) := by decide +kernel
theorem dX0_forgetFirst_41 : decode cX0_forgetFirst 41 = .ok (.iconst 1, 1) := by decide +kernel
theorem dX0_forgetFirst_42 : decode cX0_forgetFirst 42 = .ok (.isub, 1) := by decide +kernel
theorem dX0_forgetFirst_43 : decode cX0_forgetFirst 43 = .ok (.aload_n 0, 1) := by decide +kernel
theorem dX0_forgetFirst_44 : decode cX0_forgetFirst 44 = .ok (.getfield 19, 3) := by decide +kernel
theorem dX0_forgetFirst_47 : decode cX0_forgetFirst 47 = .ok (.iload_n 1, 1) := by decide +kernel
theorem dX0_forgetFirst_48 : decode cX0_forgetFirst 48 = .ok (.iaload, 1) := by decide +kernel
theorem dX0_forgetFirst_49 : decode cX0_forgetFirst 49 = .ok (.iastore, 1) := by decide +kernel
theorem dX0_forgetFirst_50 : decode cX0_forgetFirst 50 = .ok (.iinc 1 1, 3) := by decide +kernel
theorem dX0_forgetFirst_53 : decode cX0_forgetFirst 53 = .ok (.goto (-51), 3) := by decide +kernel
theorem dX0_forgetFirst_56 : decode cX0_forgetFirst 56 = .ok (.aload_n 0, 1) := by decide +kernel
theorem dX0_forgetFirst_57 : decode cX0_forgetFirst 57 = .ok (.bipush 13, 2) := by decide +kernel
theorem dX0_forgetFirst_59 : decode cX0_forgetFirst 59 = .ok (.putfield 22, 3) := by decide +kernel
theorem dX0_forgetFirst_62 : decode cX0_forgetFirst 62 = .ok (.return_, 1) := by decide +kernel
theorem dX0_takeBack_0 : decode cX0_takeBack 0 = .ok (.aload_n 0, 1) := by decide +kernel
theorem dX0_takeBack_1 : decode cX0_takeBack 1 = .ok (.getfield 15, 3) := by decide +kernel
theorem dX0_takeBack_4 : decode cX0_takeBack 4 = .ok (.iload_n 2, 1) := by decide +kernel
theorem dX0_takeBack_5 : decode cX0_takeBack 5 = .ok (.baload, 1) := by decide +kernel
theorem dX0_takeBack_6 : decode cX0_takeBack 6 = .ok (.ifCond .eq 23, 3) := by decide +kernel
theorem dX0_takeBack_9 : decode cX0_takeBack 9 = .ok (.aload_n 1, 1) := by decide +kernel
theorem dX0_takeBack_10 : decode cX0_takeBack 10 = .ok (.getfield 29, 3) := by decide +kernel
theorem dX0_takeBack_13 : decode cX0_takeBack 13 = .ok (.aload_n 0, 1) := by decide +kernel
theorem dX0_takeBack_14 : decode cX0_takeBack 14 = .ok (.getfield 9, 3) := by decide +kernel
theorem dX0_takeBack_17 : decode cX0_takeBack 17 = .ok (.iload_n 2, 1) := by decide +kernel
theorem dX0_takeBack_18 : decode cX0_takeBack 18 = .ok (.iaload, 1) := by decide +kernel
theorem dX0_takeBack_19 : decode cX0_takeBack 19 = .ok (.aload_n 0, 1) := by decide +kernel
theorem dX0_takeBack_20 : decode cX0_takeBack 20 = .ok (.getfield 19, 3) := by decide +kernel
theorem dX0_takeBack_23 : decode cX0_takeBack 23 = .ok (.iload_n 2, 1) := by decide +kernel
theorem dX0_takeBack_24 : decode cX0_takeBack 24 = .ok (.iaload, 1) := by decide +kernel
theorem dX0_takeBack_25 : decode cX0_takeBack 25 = .ok (.iastore, 1) := by decide +kernel
theorem dX0_takeBack_26 : decode cX0_takeBack 26 = .ok (.goto 20, 3) := by decide +kernel
theorem dX0_takeBack_29 : decode cX0_takeBack 29 = .ok (.aload_n 1, 1) := by decide +kernel
theorem dX0_takeBack_30 : decode cX0_takeBack 30 = .ok (.getfield 34, 3) := by decide +kernel
theorem dX0_takeBack_33 : decode cX0_takeBack 33 = .ok (.aload_n 0, 1) := by decide +kernel
theorem dX0_takeBack_34 : decode cX0_takeBack 34 = .ok (.getfield 9, 3) := by decide +kernel
theorem dX0_takeBack_37 : decode cX0_takeBack 37 = .ok (.iload_n 2, 1) := by decide +kernel
theorem dX0_takeBack_38 : decode cX0_takeBack 38 = .ok (.iaload, 1) := by decide +kernel
theorem dX0_takeBack_39 : decode cX0_takeBack 39 = .ok (.aload_n 0, 1) := by decide +kernel
theorem dX0_takeBack_40 : decode cX0_takeBack 40 = .ok (.getfield 19, 3) := by decide +kernel
theorem dX0_takeBack_43 : decode cX0_takeBack 43 = .ok (.iload_n 2, 1) := by decide +kernel
theorem dX0_takeBack_44 : decode cX0_takeBack 44 = .ok (.iaload, 1) := by decide +kernel
theorem dX0_takeBack_45 : decode cX0_takeBack 45 = .ok (.iastore, 1) := by decide +kernel
theorem dX0_takeBack_46 : decode cX0_takeBack 46 = .ok (.return_, 1) := by decide +kernel
theorem dX1_init_0 : decode cX1_init 0 = .ok (.aload_n 0, 1) := by decide +kernel
theorem dX1_init_1 : decode cX1_init 1 = .ok (.invokespecial 3, 3) := by decide +kernel
theorem dX1_init_4 : decode cX1_init 4 = .ok (.aload_n 0, 1) := by decide +kernel
theorem dX1_init_5 : decode cX1_init 5 = .ok (.bipush 18, 2) := by decide +kernel
theorem dX1_init_7 : decode cX1_init 7 = .ok (.newarray .int, 2) := by decide +kernel
theorem dX1_init_9 : decode cX1_init 9 = .ok (.putfield 9, 3) := by decide +kernel
theorem dX1_init_12 : decode cX1_init 12 = .ok (.aload_n 0, 1) := by decide +kernel
theorem dX1_init_13 : decode cX1_init 13 = .ok (.iconst 0, 1) := by decide +kernel
theorem dX1_init_14 : decode cX1_init 14 = .ok (.putfield 15, 3) := by decide +kernel
theorem dX1_init_17 : decode cX1_init 17 = .ok (.aload_n 0, 1) := by decide +kernel
theorem dX1_init_18 : decode cX1_init 18 = .ok (.iconst 0, 1) := by decide +kernel
theorem dX1_init_19 : decode cX1_init 19 = .ok (.putfield 19, 3) := by decide +kernel
theorem dX1_init_22 : decode cX1_init 22 = .ok (.return_, 1) := by decide +kernel
set_option maxRecDepth 20000 in
theorem ggX1_settle_X1_made : GoodIn wsX1_settle wsX1_made := goodIn_r _ [11, 12, 13, 10, 14, 15, 16, 17, 18, 19, 20] (by decide +kernel) (by decide +kernel)
set_option maxRecDepth 20000 in
theorem gX1_settle_X1_made : GoodIn wsX1_settle (va_wsS RX1 36 yX1_made wsX1_made) := goodIn_app (goodIn_of _ (by decide +kernel)) ggX1_settle_X1_made
set_option maxRecDepth 20000 in
theorem ggX1_settle_X1_addLink : GoodIn wsX1_settle wsX1_addLink := goodIn_r _ [24, 3, 4, 25, 26, 10, 27, 39, 40, 41] (by decide +kernel) (by decide +kernel)
set_option maxRecDepth 20000 in
theorem gX1_settle_X1_addLink : GoodIn wsX1_settle (wsV RX1 40 RX1 yX1_addLink wsX1_addLink) := goodIn_app (goodIn_of _ (by decide +kernel)) ggX1_settle_X1_addLink
theorem dX1_settle_0 : decode cX1_settle 0 = .ok (.iconst 0, 1) := by decide +kernel
theorem dX1_settle_1 : decode cX1_settle 1 = .ok (.istore 4, 2) := by decide +kernel
theorem dX1_settle_3 : decode cX1_settle 3 = .ok (.iload 4, 2) := by decide +kernel
theorem dX1_settle_5 : decode cX1_settle 5 = .ok (.aload_n 1, 1) := by decide +kernel
theorem dX1_settle_6 : decode cX1_settle 6 = .ok (.getfield 22, 3) := by decide +kernel
theorem dX1_settle_9 : decode cX1_settle 9 = .ok (.if_icmp .ge 50, 3) := by decide +kernel
theorem dX1_settle_12 : decode cX1_settle 12 = .ok (.iload_n 3, 1) := by decide +kernel
theorem dX1_settle_13 : decode cX1_settle 13 = .ok (.iconst 4, 1) := by decide +kernel
theorem dX1_settle_14 : decode cX1_settle 14 = .ok (.iload 4, 2) := by decide +kernel
theorem dX1_settle_16 : decode cX1_settle 16 = .ok (.iadd, 1) := by decide +kernel
theorem dX1_settle_17 : decode cX1_settle 17 = .ok (.ishr, 1) := by decide +kernel
theorem dX1_settle_18 : decode cX1_settle 18 = .ok (.iconst 1, 1) := by decide +kernel
theorem dX1_settle_19 : decode cX1_settle 19 = .ok (.iand, 1) := by decide +kernel
theorem dX1_settle_20 : decode cX1_settle 20 = .ok (.istore 5, 2) := by decide +kernel
theorem dX1_settle_22 : decode cX1_settle 22 = .ok (.iload_n 3, 1) := by decide +kernel
theorem dX1_settle_23 : decode cX1_settle 23 = .ok (.iload 4, 2) := by decide +kernel
theorem dX1_settle_25 : decode cX1_settle 25 = .ok (.ishr, 1) := by decide +kernel
theorem dX1_settle_26 : decode cX1_settle 26 = .ok (.iconst 1, 1) := by decide +kernel
theorem dX1_settle_27 : decode cX1_settle 27 = .ok (.iand, 1) := by decide +kernel
theorem dX1_settle_28 : decode cX1_settle 28 = .ok (.istore 6, 2) := by decide +kernel
theorem dX1_settle_30 : decode cX1_settle 30 = .ok (.aload_n 0, 1) := by decide +kernel
theorem dX1_settle_31 : decode cX1_settle 31 = .ok (.getfield 9, 3) := by decide +kernel
theorem dX1_settle_34 : decode cX1_settle 34 = .ok (.iload 4, 2) := by decide +kernel
theorem dX1_settle_36 : decode cX1_settle 36 = .ok (.iload 5, 2) := by decide +kernel
theorem dX1_settle_38 : decode cX1_settle 38 = .ok (.iload 6, 2) := by decide +kernel
theorem dX1_settle_40 : decode cX1_settle 40 = .ok (.if_icmp .ne 8, 3) := by decide +kernel
theorem dX1_settle_43 : decode cX1_settle 43 = .ok (.iload 6, 2) := by decide +kernel
theorem dX1_settle_45 : decode cX1_settle 45 = .ok (.goto 7, 3) := by decide +kernel
theorem dX1_settle_48 : decode cX1_settle 48 = .ok (.iconst 2, 1) := by decide +kernel
theorem dX1_settle_49 : decode cX1_settle 49 = .ok (.iload 6, 2) := by decide +kernel
theorem dX1_settle_51 : decode cX1_settle 51 = .ok (.iadd, 1) := by decide +kernel
theorem dX1_settle_52 : decode cX1_settle 52 = .ok (.iastore, 1) := by decide +kernel
theorem dX1_settle_53 : decode cX1_settle 53 = .ok (.iinc 4 1, 3) := by decide +kernel
theorem dX1_settle_56 : decode cX1_settle 56 = .ok (.goto (-53), 3) := by decide +kernel
theorem dX1_settle_59 : decode cX1_settle 59 = .ok (.aload_n 0, 1) := by decide +kernel
theorem dX1_settle_60 : decode cX1_settle 60 = .ok (.iconst 0, 1) := by decide +kernel
theorem dX1_settle_61 : decode cX1_settle 61 = .ok (.putfield 15, 3) := by decide +kernel
theorem dX1_settle_64 : decode cX1_settle 64 = .ok (.aload_n 0, 1) := by decide +kernel
theorem dX1_settle_65 : decode cX1_settle 65 = .ok (.iconst 0, 1) := by decide +kernel
theorem dX1_settle_66 : decode cX1_settle 66 = .ok (.putfield 19, 3) := by decide +kernel
theorem dX1_settle_69 : decode cX1_settle 69 = .ok (.iconst 0, 1) := by decide +kernel
theorem dX1_settle_70 : decode cX1_settle 70 = .ok (.istore 4, 2) := by decide +kernel
theorem dX1_settle_72 : decode cX1_settle 72 = .ok (.iload 4, 2) := by decide +kernel
theorem dX1_settle_74 : decode cX1_settle 74 = .ok (.aload_n 1, 1) := by decide +kernel
theorem dX1_settle_75 : decode cX1_settle 75 = .ok (.getfield 27, 3) := by decide +kernel
theorem dX1_settle_78 : decode cX1_settle 78 = .ok (.if_icmp .ge 107, 3) := by decide +kernel
theorem dX1_settle_81 : decode cX1_settle 81 = .ok (.aload_n 0, 1) := by decide +kernel
theorem dX1_settle_82 : decode cX1_settle 82 = .ok (.getfield 9, 3) := by decide +kernel
theorem dX1_settle_85 : decode cX1_settle 85 = .ok (.aload_n 1, 1) := by decide +kernel
theorem dX1_settle_86 : decode cX1_settle 86 = .ok (.getfield 30, 3) := by decide +kernel
theorem dX1_settle_89 : decode cX1_settle 89 = .ok (.iload 4, 2) := by decide +kernel
theorem dX1_settle_91 : decode cX1_settle 91 = .ok (.iaload, 1) := by decide +kernel
theorem dX1_settle_92 : decode cX1_settle 92 = .ok (.iaload, 1) := by decide +kernel
theorem dX1_settle_93 : decode cX1_settle 93 = .ok (.istore 5, 2) := by decide +kernel
theorem dX1_settle_95 : decode cX1_settle 95 = .ok (.aload_n 2, 1) := by decide +kernel
theorem dX1_settle_96 : decode cX1_settle 96 = .ok (.iload 4, 2) := by decide +kernel
theorem dX1_settle_98 : decode cX1_settle 98 = .ok (.iaload, 1) := by decide +kernel
theorem dX1_settle_99 : decode cX1_settle 99 = .ok (.iconst 4, 1) := by decide +kernel
theorem dX1_settle_100 : decode cX1_settle 100 = .ok (.if_icmp .ne 8, 3) := by decide +kernel
theorem dX1_settle_103 : decode cX1_settle 103 = .ok (.iload 5, 2) := by decide +kernel
theorem dX1_settle_105 : decode cX1_settle 105 = .ok (.goto 15, 3) := by decide +kernel
theorem dX1_settle_108 : decode cX1_settle 108 = .ok (.aload_n 0, 1) := by decide +kernel
theorem dX1_settle_109 : decode cX1_settle 109 = .ok (.getfield 9, 3) := by decide +kernel
theorem dX1_settle_112 : decode cX1_settle 112 = .ok (.aload_n 1, 1) := by decide +kernel
theorem dX1_settle_113 : decode cX1_settle 113 = .ok (.getfield 33, 3) := by decide +kernel
theorem dX1_settle_116 : decode cX1_settle 116 = .ok (.iload 4, 2) := by decide +kernel
theorem dX1_settle_118 : decode cX1_settle 118 = .ok (.iaload, 1) := by decide +kernel
theorem dX1_settle_119 : decode cX1_settle 119 = .ok (.iaload, 1) := by decide +kernel
theorem dX1_settle_120 : decode cX1_settle 120 = .ok (.istore 6, 2) := by decide +kernel
theorem dX1_settle_122 : decode cX1_settle 122 = .ok (.aload_n 0, 1) := by decide +kernel
theorem dX1_settle_123 : decode cX1_settle 123 = .ok (.getfield 9, 3) := by decide +kernel
theorem dX1_settle_126 : decode cX1_settle 126 = .ok (.bipush 10, 2) := by decide +kernel
theorem dX1_settle_128 : decode cX1_settle 128 = .ok (.iload 4, 2) := by decide +kernel
theorem dX1_settle_130 : decode cX1_settle 130 = .ok (.iadd, 1) := by decide +kernel
theorem dX1_settle_131 : decode cX1_settle 131 = .ok (.aload_n 2, 1) := by decide +kernel
theorem dX1_settle_132 : decode cX1_settle 132 = .ok (.iload 4, 2) := by decide +kernel
theorem dX1_settle_134 : decode cX1_settle 134 = .ok (.iaload, 1) := by decide +kernel
theorem dX1_settle_135 : decode cX1_settle 135 = .ok (.iload 5, 2) := by decide +kernel
theorem dX1_settle_137 : decode cX1_settle 137 = .ok (.iload 6, 2) := by decide +kernel
theorem dX1_settle_139 : decode cX1_settle 139 = .ok (.invokestatic 36, 3) := by decide +kernel
theorem dX1_settle_142 : decode cX1_settle 142 = .ok (.iastore, 1) := by decide +kernel
theorem dX1_settle_143 : decode cX1_settle 143 = .ok (.aload_n 0, 1) := by decide +kernel
theorem dX1_settle_144 : decode cX1_settle 144 = .ok (.aload_n 2, 1) := by decide +kernel
theorem dX1_settle_145 : decode cX1_settle 145 = .ok (.iload 4, 2) := by decide +kernel
theorem dX1_settle_147 : decode cX1_settle 147 = .ok (.iaload, 1) := by decide +kernel
theorem dX1_settle_148 : decode cX1_settle 148 = .ok (.iload 5, 2) := by decide +kernel
theorem dX1_settle_150 : decode cX1_settle 150 = .ok (.iload 6, 2) := by decide +kernel
theorem dX1_settle_152 : decode cX1_settle 152 = .ok (.iconst 1, 1) := by decide +kernel
theorem dX1_settle_153 : decode cX1_settle 153 = .ok (.iconst 2, 1) := by decide +kernel
theorem dX1_settle_154 : decode cX1_settle 154 = .ok (.iload 4, 2) := by decide +kernel
theorem dX1_settle_156 : decode cX1_settle 156 = .ok (.imul, 1) := by decide +kernel
theorem dX1_settle_157 : decode cX1_settle 157 = .ok (.ishl, 1) := by decide +kernel
theorem dX1_settle_158 : decode cX1_settle 158 = .ok (.invokevirtual 40, 3) := by decide +kernel
theorem dX1_settle_161 : decode cX1_settle 161 = .ok (.aload_n 0, 1) := by decide +kernel
theorem dX1_settle_162 : decode cX1_settle 162 = .ok (.aload_n 2, 1) := by decide +kernel
theorem dX1_settle_163 : decode cX1_settle 163 = .ok (.iload 4, 2) := by decide +kernel
theorem dX1_settle_165 : decode cX1_settle 165 = .ok (.iaload, 1) := by decide +kernel
theorem dX1_settle_166 : decode cX1_settle 166 = .ok (.iload 6, 2) := by decide +kernel
theorem dX1_settle_168 : decode cX1_settle 168 = .ok (.iload 5, 2) := by decide +kernel
theorem dX1_settle_170 : decode cX1_settle 170 = .ok (.iconst 2, 1) := by decide +kernel
theorem dX1_settle_171 : decode cX1_settle 171 = .ok (.iconst 2, 1) := by decide +kernel
theorem dX1_settle_172 : decode cX1_settle 172 = .ok (.iload 4, 2) := by decide +kernel
theorem dX1_settle_174 : decode cX1_settle 174 = .ok (.imul, 1) := by decide +kernel
theorem dX1_settle_175 : decode cX1_settle 175 = .ok (.ishl, 1) := by decide +kernel
theorem dX1_settle_176 : decode cX1_settle 176 = .ok (.invokevirtual 40, 3) := by decide +kernel
theorem dX1_settle_179 : decode cX1_settle 179 = .ok (.iinc 4 1, 3) := by decide +kernel
theorem dX1_settle_182 : decode cX1_settle 182 = .ok (.goto (-110), 3) := by decide +kernel
theorem dX1_settle_185 : decode cX1_settle 185 = .ok (.return_, 1) := by decide +kernel
set_option maxRecDepth 20000 in
theorem ggX1_made_X1_both : GoodIn wsX1_made wsX1_both := goodIn_r _ [4] (by decide +kernel) (by decide +kernel)
set_option maxRecDepth 20000 in
theorem gX1_made_X1_both : GoodIn wsX1_made (va_wsS RX1 44 yX1_both wsX1_both) := goodIn_app (goodIn_of _ (by decide +kernel)) ggX1_made_X1_both
set_option maxRecDepth 20000 in
theorem ggX1_made_X1_any : GoodIn wsX1_made wsX1_any := goodIn_r _ [7] (by decide +kernel) (by decide +kernel)
set_option maxRecDepth 20000 in
theorem gX1_made_X1_any : GoodIn wsX1_made (va_wsS RX1 48 yX1_any wsX1_any) := goodIn_app (goodIn_of _ (by decide +kernel)) ggX1_made_X1_any
set_option maxRecDepth 20000 in
theorem ggX1_made_X1_swapped : GoodIn wsX1_made wsX1_swapped := goodIn_r _ [10] (by decide +kernel) (by decide +kernel)
set_option maxRecDepth 20000 in
theorem gX1_made_X1_swapped : GoodIn wsX1_made (va_wsS RX1 51 yX1_swapped wsX1_swapped) := goodIn_app (goodIn_of _ (by decide +kernel)) ggX1_made_X1_swapped
theorem dX1_made_0 : decode cX1_made 0 = .ok (.iload_n 0, 1) := by decide +kernel
theorem dX1_made_1 : decode cX1_made 1 = .ok (.tableswitch 61 0 3 #[31, 37, 43, 52], 31) := by decide +kernel
theorem dX1_made_32 : decode cX1_made 32 = .ok (.iload_n 1, 1) := by decide +kernel
theorem dX1_made_33 : decode cX1_made 33 = .ok (.iload_n 2, 1) := by decide +kernel
theorem dX1_made_34 : decode cX1_made 34 = .ok (.invokestatic 44, 3) := by decide +kernel
theorem dX1_made_37 : decode cX1_made 37 = .ok (.ireturn, 1) := by decide +kernel
theorem dX1_made_38 : decode cX1_made 38 = .ok (.iload_n 1, 1) := by decide +kernel
theorem dX1_made_39 : decode cX1_made 39 = .ok (.iload_n 2, 1) := by decide +kernel
theorem dX1_made_40 : decode cX1_made 40 = .ok (.invokestatic 48, 3) := by decide +kernel
theorem dX1_made_43 : decode cX1_made 43 = .ok (.ireturn, 1) := by decide +kernel
theorem dX1_made_44 : decode cX1_made 44 = .ok (.iload_n 1, 1) := by decide +kernel
theorem dX1_made_45 : decode cX1_made 45 = .ok (.iload_n 2, 1) := by decide +kernel
theorem dX1_made_46 : decode cX1_made 46 = .ok (.invokestatic 44, 3) := by decide +kernel
theorem dX1_made_49 : decode cX1_made 49 = .ok (.invokestatic 51, 3) := by decide +kernel
theorem dX1_made_52 : decode cX1_made 52 = .ok (.ireturn, 1) := by decide +kernel
theorem dX1_made_53 : decode cX1_made 53 = .ok (.iload_n 1, 1) := by decide +kernel
theorem dX1_made_54 : decode cX1_made 54 = .ok (.iload_n 2, 1) := by decide +kernel
theorem dX1_made_55 : decode cX1_made 55 = .ok (.invokestatic 48, 3) := by decide +kernel
theorem dX1_made_58 : decode cX1_made 58 = .ok (.invokestatic 51, 3) := by decide +kernel
theorem dX1_made_61 : decode cX1_made 61 = .ok (.ireturn, 1) := by decide +kernel
theorem dX1_made_62 : decode cX1_made 62 = .ok (.iload_n 1, 1) := by decide +kernel
theorem dX1_made_63 : decode cX1_made 63 = .ok (.invokestatic 51, 3) := by decide +kernel
theorem dX1_made_66 : decode cX1_made 66 = .ok (.ireturn, 1) := by decide +kernel
theorem dX1_both_0 : decode cX1_both 0 = .ok (.iload_n 0, 1) := by decide +kernel
theorem dX1_both_1 : decode cX1_both 1 = .ok (.ifCond .eq 7, 3) := by decide +kernel
theorem dX1_both_4 : decode cX1_both 4 = .ok (.iload_n 1, 1) := by decide +kernel
theorem dX1_both_5 : decode cX1_both 5 = .ok (.ifCond .ne 5, 3) := by decide +kernel
theorem dX1_both_8 : decode cX1_both 8 = .ok (.iconst 0, 1) := by decide +kernel
theorem dX1_both_9 : decode cX1_both 9 = .ok (.ireturn, 1) := by decide +kernel
theorem dX1_both_10 : decode cX1_both 10 = .ok (.iload_n 0, 1) := by decide +kernel
theorem dX1_both_11 : decode cX1_both 11 = .ok (.iconst 1, 1) := by decide +kernel
theorem dX1_both_12 : decode cX1_both 12 = .ok (.if_icmp .ne 10, 3) := by decide +kernel
theorem dX1_both_15 : decode cX1_both 15 = .ok (.iload_n 1, 1) := by decide +kernel
theorem dX1_both_16 : decode cX1_both 16 = .ok (.iconst 1, 1) := by decide +kernel
theorem dX1_both_17 : decode cX1_both 17 = .ok (.if_icmp .ne 5, 3) := by decide +kernel
theorem dX1_both_20 : decode cX1_both 20 = .ok (.iconst 1, 1) := by decide +kernel
theorem dX1_both_21 : decode cX1_both 21 = .ok (.ireturn, 1) := by decide +kernel
theorem dX1_both_22 : decode cX1_both 22 = .ok (.iconst 2, 1) := by decide +kernel
theorem dX1_both_23 : decode cX1_both 23 = .ok (.iload_n 0, 1) := by decide +kernel
theorem dX1_both_24 : decode cX1_both 24 = .ok (.iload_n 1, 1) := by decide +kernel
theorem dX1_both_25 : decode cX1_both 25 = .ok (.iand, 1) := by decide +kernel
theorem dX1_both_26 : decode cX1_both 26 = .ok (.iconst 1, 1) := by decide +kernel
theorem dX1_both_27 : decode cX1_both 27 = .ok (.iand, 1) := by decide +kernel
theorem dX1_both_28 : decode cX1_both 28 = .ok (.iadd, 1) := by decide +kernel
theorem dX1_both_29 : decode cX1_both 29 = .ok (.ireturn, 1) := by decide +kernel
theorem dX1_any_0 : decode cX1_any 0 = .ok (.iload_n 0, 1) := by decide +kernel
theorem dX1_any_1 : decode cX1_any 1 = .ok (.iconst 1, 1) := by decide +kernel
theorem dX1_any_2 : decode cX1_any 2 = .ok (.if_icmp .eq 8, 3) := by decide +kernel
theorem dX1_any_5 : decode cX1_any 5 = .ok (.iload_n 1, 1) := by decide +kernel
theorem dX1_any_6 : decode cX1_any 6 = .ok (.iconst 1, 1) := by decide +kernel
theorem dX1_any_7 : decode cX1_any 7 = .ok (.if_icmp .ne 5, 3) := by decide +kernel
theorem dX1_any_10 : decode cX1_any 10 = .ok (.iconst 1, 1) := by decide +kernel
theorem dX1_any_11 : decode cX1_any 11 = .ok (.ireturn, 1) := by decide +kernel
theorem dX1_any_12 : decode cX1_any 12 = .ok (.iload_n 0, 1) := by decide +kernel
theorem dX1_any_13 : decode cX1_any 13 = .ok (.ifCond .ne 9, 3) := by decide +kernel
theorem dX1_any_16 : decode cX1_any 16 = .ok (.iload_n 1, 1) := by decide +kernel
theorem dX1_any_17 : decode cX1_any 17 = .ok (.ifCond .ne 5, 3) := by decide +kernel
theorem dX1_any_20 : decode cX1_any 20 = .ok (.iconst 0, 1) := by decide +kernel
theorem dX1_any_21 : decode cX1_any 21 = .ok (.ireturn, 1) := by decide +kernel
theorem dX1_any_22 : decode cX1_any 22 = .ok (.iconst 2, 1) := by decide +kernel
theorem dX1_any_23 : decode cX1_any 23 = .ok (.iload_n 0, 1) := by decide +kernel
theorem dX1_any_24 : decode cX1_any 24 = .ok (.iload_n 1, 1) := by decide +kernel
theorem dX1_any_25 : decode cX1_any 25 = .ok (.ior, 1) := by decide +kernel
theorem dX1_any_26 : decode cX1_any 26 = .ok (.iconst 1, 1) := by decide +kernel
theorem dX1_any_27 : decode cX1_any 27 = .ok (.iand, 1) := by decide +kernel
theorem dX1_any_28 : decode cX1_any 28 = .ok (.iadd, 1) := by decide +kernel
theorem dX1_any_29 : decode cX1_any 29 = .ok (.ireturn, 1) := by decide +kernel
theorem dX1_swapped_0 : decode cX1_swapped 0 = .ok (.iload_n 0, 1) := by decide +kernel
theorem dX1_swapped_1 : decode cX1_swapped 1 = .ok (.iconst 1, 1) := by decide +kernel
theorem dX1_swapped_2 : decode cX1_swapped 2 = .ok (.ixor, 1) := by decide +kernel
theorem dX1_swapped_3 : decode cX1_swapped 3 = .ok (.ireturn, 1) := by decide +kernel
theorem dX1_endsAt_0 : decode cX1_endsAt 0 = .ok (.iload_n 0, 1) := by decide +kernel
theorem dX1_endsAt_1 : decode cX1_endsAt 1 = .ok (.iconst 1, 1) := by decide +kernel
theorem dX1_endsAt_2 : decode cX1_endsAt 2 = .ok (.iand, 1) := by decide +kernel
theorem dX1_endsAt_3 : decode cX1_endsAt 3 = .ok (.ireturn, 1) := by decide +kernel
set_option maxRecDepth 20000 in
theorem ggX1_addLink_X1_endsAt : GoodIn wsX1_addLink wsX1_endsAt := goodIn_r _ [6] (by decide +kernel) (by decide +kernel)
set_option maxRecDepth 20000 in
theorem gX1_addLink_X1_endsAt : GoodIn wsX1_addLink (va_wsS RX1 55 yX1_endsAt wsX1_endsAt) := goodIn_app (goodIn_of _ (by decide +kernel)) ggX1_addLink_X1_endsAt
theorem dX1_addLink_0 : decode cX1_addLink 0 = .ok (.iload_n 1, 1) := by decide +kernel
theorem dX1_addLink_1 : decode cX1_addLink 1 = .ok (.iconst 4, 1) := by decide +kernel
theorem dX1_addLink_2 : decode cX1_addLink 2 = .ok (.if_icmp .ne 26, 3) := by decide +kernel
theorem dX1_addLink_5 : decode cX1_addLink 5 = .ok (.aload_n 0, 1) := by decide +kernel
theorem dX1_addLink_6 : decode cX1_addLink 6 = .ok (.dup, 1) := by decide +kernel
theorem dX1_addLink_7 : decode cX1_addLink 7 = .ok (.getfield 15, 3) := by decide +kernel
theorem dX1_addLink_10 : decode cX1_addLink 10 = .ok (.iload 4, 2) := by decide +kernel
theorem dX1_addLink_12 : decode cX1_addLink 12 = .ok (.ior, 1) := by decide +kernel
theorem dX1_addLink_13 : decode cX1_addLink 13 = .ok (.putfield 15, 3) := by decide +kernel
theorem dX1_addLink_16 : decode cX1_addLink 16 = .ok (.aload_n 0, 1) := by decide +kernel
theorem dX1_addLink_17 : decode cX1_addLink 17 = .ok (.dup, 1) := by decide +kernel
theorem dX1_addLink_18 : decode cX1_addLink 18 = .ok (.getfield 19, 3) := by decide +kernel
theorem dX1_addLink_21 : decode cX1_addLink 21 = .ok (.iload 4, 2) := by decide +kernel
theorem dX1_addLink_23 : decode cX1_addLink 23 = .ok (.ior, 1) := by decide +kernel
theorem dX1_addLink_24 : decode cX1_addLink 24 = .ok (.putfield 19, 3) := by decide +kernel
theorem dX1_addLink_27 : decode cX1_addLink 27 = .ok (.return_, 1) := by decide +kernel
theorem dX1_addLink_28 : decode cX1_addLink 28 = .ok (.iload_n 1, 1) := by decide +kernel
theorem dX1_addLink_29 : decode cX1_addLink 29 = .ok (.ifCond .eq 8, 3) := by decide +kernel
theorem dX1_addLink_32 : decode cX1_addLink 32 = .ok (.iload_n 1, 1) := by decide +kernel
theorem dX1_addLink_33 : decode cX1_addLink 33 = .ok (.iconst 2, 1) := by decide +kernel
theorem dX1_addLink_34 : decode cX1_addLink 34 = .ok (.if_icmp .ne 7, 3) := by decide +kernel
theorem dX1_addLink_37 : decode cX1_addLink 37 = .ok (.iconst 1, 1) := by decide +kernel
theorem dX1_addLink_38 : decode cX1_addLink 38 = .ok (.goto 4, 3) := by decide +kernel
theorem dX1_addLink_41 : decode cX1_addLink 41 = .ok (.iconst 0, 1) := by decide +kernel
theorem dX1_addLink_42 : decode cX1_addLink 42 = .ok (.istore 5, 2) := by decide +kernel
theorem dX1_addLink_44 : decode cX1_addLink 44 = .ok (.iload_n 3, 1) := by decide +kernel
theorem dX1_addLink_45 : decode cX1_addLink 45 = .ok (.invokestatic 55, 3) := by decide +kernel
theorem dX1_addLink_48 : decode cX1_addLink 48 = .ok (.iload 5, 2) := by decide +kernel
theorem dX1_addLink_50 : decode cX1_addLink 50 = .ok (.if_icmp .ne 40, 3) := by decide +kernel
theorem dX1_addLink_53 : decode cX1_addLink 53 = .ok (.aload_n 0, 1) := by decide +kernel
theorem dX1_addLink_54 : decode cX1_addLink 54 = .ok (.dup, 1) := by decide +kernel
theorem dX1_addLink_55 : decode cX1_addLink 55 = .ok (.getfield 15, 3) := by decide +kernel
theorem dX1_addLink_58 : decode cX1_addLink 58 = .ok (.iload 4, 2) := by decide +kernel
theorem dX1_addLink_60 : decode cX1_addLink 60 = .ok (.ior, 1) := by decide +kernel
theorem dX1_addLink_61 : decode cX1_addLink 61 = .ok (.putfield 15, 3) := by decide +kernel
theorem dX1_addLink_64 : decode cX1_addLink 64 = .ok (.iload_n 2, 1) := by decide +kernel
theorem dX1_addLink_65 : decode cX1_addLink 65 = .ok (.invokestatic 55, 3) := by decide +kernel
theorem dX1_addLink_68 : decode cX1_addLink 68 = .ok (.iload 5, 2) := by decide +kernel
theorem dX1_addLink_70 : decode cX1_addLink 70 = .ok (.if_icmp .eq 9, 3) := by decide +kernel
theorem dX1_addLink_73 : decode cX1_addLink 73 = .ok (.iload_n 3, 1) := by decide +kernel
theorem dX1_addLink_74 : decode cX1_addLink 74 = .ok (.iload 5, 2) := by decide +kernel
theorem dX1_addLink_76 : decode cX1_addLink 76 = .ok (.if_icmp .ne 14, 3) := by decide +kernel
theorem dX1_addLink_79 : decode cX1_addLink 79 = .ok (.aload_n 0, 1) := by decide +kernel
theorem dX1_addLink_80 : decode cX1_addLink 80 = .ok (.dup, 1) := by decide +kernel
theorem dX1_addLink_81 : decode cX1_addLink 81 = .ok (.getfield 19, 3) := by decide +kernel
theorem dX1_addLink_84 : decode cX1_addLink 84 = .ok (.iload 4, 2) := by decide +kernel
theorem dX1_addLink_86 : decode cX1_addLink 86 = .ok (.ior, 1) := by decide +kernel
theorem dX1_addLink_87 : decode cX1_addLink 87 = .ok (.putfield 19, 3) := by decide +kernel
theorem dX1_addLink_90 : decode cX1_addLink 90 = .ok (.return_, 1) := by decide +kernel
theorem dX1_howFar_0 : decode cX1_howFar 0 = .ok (.aload_n 0, 1) := by decide +kernel
theorem dX1_howFar_1 : decode cX1_howFar 1 = .ok (.getfield 9, 3) := by decide +kernel
theorem dX1_howFar_4 : decode cX1_howFar 4 = .ok (.aload_n 1, 1) := by decide +kernel
theorem dX1_howFar_5 : decode cX1_howFar 5 = .ok (.getfield 58, 3) := by decide +kernel
theorem dX1_howFar_8 : decode cX1_howFar 8 = .ok (.iload_n 2, 1) := by decide +kernel
theorem dX1_howFar_9 : decode cX1_howFar 9 = .ok (.iaload, 1) := by decide +kernel
theorem dX1_howFar_10 : decode cX1_howFar 10 = .ok (.iaload, 1) := by decide +kernel
theorem dX1_howFar_11 : decode cX1_howFar 11 = .ok (.iconst 2, 1) := by decide +kernel
theorem dX1_howFar_12 : decode cX1_howFar 12 = .ok (.if_icmp .lt 19, 3) := by decide +kernel
theorem dX1_howFar_15 : decode cX1_howFar 15 = .ok (.aload_n 1, 1) := by decide +kernel
theorem dX1_howFar_16 : decode cX1_howFar 16 = .ok (.getfield 61, 3) := by decide +kernel
theorem dX1_howFar_19 : decode cX1_howFar 19 = .ok (.iload_n 2, 1) := by decide +kernel
theorem dX1_howFar_20 : decode cX1_howFar 20 = .ok (.iaload, 1) := by decide +kernel
theorem dX1_howFar_21 : decode cX1_howFar 21 = .ok (.aload_n 0, 1) := by decide +kernel
theorem dX1_howFar_22 : decode cX1_howFar 22 = .ok (.getfield 15, 3) := by decide +kernel
theorem dX1_howFar_25 : decode cX1_howFar 25 = .ok (.iconst (-1), 1) := by decide +kernel
theorem dX1_howFar_26 : decode cX1_howFar 26 = .ok (.ixor, 1) := by decide +kernel
theorem dX1_howFar_27 : decode cX1_howFar 27 = .ok (.iand, 1) := by decide +kernel
theorem dX1_howFar_28 : decode cX1_howFar 28 = .ok (.ifCond .eq 5, 3) := by decide +kernel
theorem dX1_howFar_31 : decode cX1_howFar 31 = .ok (.iconst 0, 1) := by decide +kernel
theorem dX1_howFar_32 : decode cX1_howFar 32 = .ok (.ireturn, 1) := by decide +kernel
theorem dX1_howFar_33 : decode cX1_howFar 33 = .ok (.aload_n 1, 1) := by decide +kernel
theorem dX1_howFar_34 : decode cX1_howFar 34 = .ok (.getfield 61, 3) := by decide +kernel
theorem dX1_howFar_37 : decode cX1_howFar 37 = .ok (.iload_n 2, 1) := by decide +kernel
theorem dX1_howFar_38 : decode cX1_howFar 38 = .ok (.iaload, 1) := by decide +kernel
theorem dX1_howFar_39 : decode cX1_howFar 39 = .ok (.aload_n 0, 1) := by decide +kernel
theorem dX1_howFar_40 : decode cX1_howFar 40 = .ok (.getfield 19, 3) := by decide +kernel
theorem dX1_howFar_43 : decode cX1_howFar 43 = .ok (.iconst (-1), 1) := by decide +kernel
theorem dX1_howFar_44 : decode cX1_howFar 44 = .ok (.ixor, 1) := by decide +kernel
theorem dX1_howFar_45 : decode cX1_howFar 45 = .ok (.iand, 1) := by decide +kernel
theorem dX1_howFar_46 : decode cX1_howFar 46 = .ok (.ifCond .ne 7, 3) := by decide +kernel
theorem dX1_howFar_49 : decode cX1_howFar 49 = .ok (.iconst 2, 1) := by decide +kernel
theorem dX1_howFar_50 : decode cX1_howFar 50 = .ok (.goto 4, 3) := by decide +kernel
theorem dX1_howFar_53 : decode cX1_howFar 53 = .ok (.iconst 1, 1) := by decide +kernel
theorem dX1_howFar_54 : decode cX1_howFar 54 = .ok (.ireturn, 1) := by decide +kernel
theorem dX2_init_0 : decode cX2_init 0 = .ok (.aload_n 0, 1) := by decide +kernel
theorem dX2_init_1 : decode cX2_init 1 = .ok (.invokespecial 3, 3) := by decide +kernel
theorem dX2_init_4 : decode cX2_init 4 = .ok (.aload_n 0, 1) := by decide +kernel
theorem dX2_init_5 : decode cX2_init 5 = .ok (.iconst 0, 1) := by decide +kernel
theorem dX2_init_6 : decode cX2_init 6 = .ok (.putfield 9, 3) := by decide +kernel
theorem dX2_init_9 : decode cX2_init 9 = .ok (.aload_n 0, 1) := by decide +kernel
theorem dX2_init_10 : decode cX2_init 10 = .ok (.iconst 0, 1) := by decide +kernel
theorem dX2_init_11 : decode cX2_init 11 = .ok (.putfield 15, 3) := by decide +kernel
theorem dX2_init_14 : decode cX2_init 14 = .ok (.aload_n 0, 1) := by decide +kernel
theorem dX2_init_15 : decode cX2_init 15 = .ok (.iconst 0, 1) := by decide +kernel
theorem dX2_init_16 : decode cX2_init 16 = .ok (.putfield 18, 3) := by decide +kernel
theorem dX2_init_19 : decode cX2_init 19 = .ok (.aload_n 0, 1) := by decide +kernel
theorem dX2_init_20 : decode cX2_init 20 = .ok (.bipush 8, 2) := by decide +kernel
theorem dX2_init_22 : decode cX2_init 22 = .ok (.newarray .int, 2) := by decide +kernel
theorem dX2_init_24 : decode cX2_init 24 = .ok (.putfield 21, 3) := by decide +kernel
theorem dX2_init_27 : decode cX2_init 27 = .ok (.aload_n 0, 1) := by decide +kernel
theorem dX2_init_28 : decode cX2_init 28 = .ok (.bipush 8, 2) := by decide +kernel
theorem dX2_init_30 : decode cX2_init 30 = .ok (.newarray .int, 2) := by decide +kernel
theorem dX2_init_32 : decode cX2_init 32 = .ok (.putfield 25, 3) := by decide +kernel
theorem dX2_init_35 : decode cX2_init 35 = .ok (.aload_n 0, 1) := by decide +kernel
theorem dX2_init_36 : decode cX2_init 36 = .ok (.bipush 8, 2) := by decide +kernel
theorem dX2_init_38 : decode cX2_init 38 = .ok (.newarray .int, 2) := by decide +kernel
theorem dX2_init_40 : decode cX2_init 40 = .ok (.putfield 28, 3) := by decide +kernel
theorem dX2_init_43 : decode cX2_init 43 = .ok (.aload_n 0, 1) := by decide +kernel
theorem dX2_init_44 : decode cX2_init 44 = .ok (.iconst 4, 1) := by decide +kernel
theorem dX2_init_45 : decode cX2_init 45 = .ok (.newarray .int, 2) := by decide +kernel
theorem dX2_init_47 : decode cX2_init 47 = .ok (.putfield 31, 3) := by decide +kernel
theorem dX2_init_50 : decode cX2_init 50 = .ok (.aload_n 0, 1) := by decide +kernel
theorem dX2_init_51 : decode cX2_init 51 = .ok (.bipush 55, 2) := by decide +kernel
theorem dX2_init_53 : decode cX2_init 53 = .ok (.newarray .int, 2) := by decide +kernel
theorem dX2_init_55 : decode cX2_init 55 = .ok (.putfield 34, 3) := by decide +kernel
theorem dX2_init_58 : decode cX2_init 58 = .ok (.aload_n 0, 1) := by decide +kernel
theorem dX2_init_59 : decode cX2_init 59 = .ok (.bipush 55, 2) := by decide +kernel
theorem dX2_init_61 : decode cX2_init 61 = .ok (.newarray .int, 2) := by decide +kernel
theorem dX2_init_63 : decode cX2_init 63 = .ok (.putfield 37, 3) := by decide +kernel
theorem dX2_init_66 : decode cX2_init 66 = .ok (.aload_n 0, 1) := by decide +kernel
theorem dX2_init_67 : decode cX2_init 67 = .ok (.sipush 440, 3) := by decide +kernel
theorem dX2_init_70 : decode cX2_init 70 = .ok (.newarray .int, 2) := by decide +kernel
theorem dX2_init_72 : decode cX2_init 72 = .ok (.putfield 40, 3) := by decide +kernel
theorem dX2_init_75 : decode cX2_init 75 = .ok (.aload_n 0, 1) := by decide +kernel
theorem dX2_init_76 : decode cX2_init 76 = .ok (.bipush 55, 2) := by decide +kernel
theorem dX2_init_78 : decode cX2_init 78 = .ok (.newarray .int, 2) := by decide +kernel
theorem dX2_init_80 : decode cX2_init 80 = .ok (.putfield 43, 3) := by decide +kernel
theorem dX2_init_83 : decode cX2_init 83 = .ok (.return_, 1) := by decide +kernel
theorem dX2_hasGate_0 : decode cX2_hasGate 0 = .ok (.iload_n 1, 1) := by decide +kernel
theorem dX2_hasGate_1 : decode cX2_hasGate 1 = .ok (.ifCond .lt 15, 3) := by decide +kernel
theorem dX2_hasGate_4 : decode cX2_hasGate 4 = .ok (.iload_n 1, 1) := by decide +kernel
theorem dX2_hasGate_5 : decode cX2_hasGate 5 = .ok (.aload_n 0, 1) := by decide +kernel
theorem dX2_hasGate_6 : decode cX2_hasGate 6 = .ok (.getfield 15, 3) := by decide +kernel
theorem dX2_hasGate_9 : decode cX2_hasGate 9 = .ok (.if_icmp .ge 7, 3) := by decide +kernel
theorem dX2_hasGate_12 : decode cX2_hasGate 12 = .ok (.iconst 1, 1) := by decide +kernel
theorem dX2_hasGate_13 : decode cX2_hasGate 13 = .ok (.goto 4, 3) := by decide +kernel
theorem dX2_hasGate_16 : decode cX2_hasGate 16 = .ok (.iconst 0, 1) := by decide +kernel
theorem dX2_hasGate_17 : decode cX2_hasGate 17 = .ok (.ireturn, 1) := by decide +kernel
theorem dX2_hasPath_0 : decode cX2_hasPath 0 = .ok (.iload_n 1, 1) := by decide +kernel
theorem dX2_hasPath_1 : decode cX2_hasPath 1 = .ok (.ifCond .lt 15, 3) := by decide +kernel
theorem dX2_hasPath_4 : decode cX2_hasPath 4 = .ok (.iload_n 1, 1) := by decide +kernel
theorem dX2_hasPath_5 : decode cX2_hasPath 5 = .ok (.aload_n 0, 1) := by decide +kernel
theorem dX2_hasPath_6 : decode cX2_hasPath 6 = .ok (.getfield 18, 3) := by decide +kernel
theorem dX2_hasPath_9 : decode cX2_hasPath 9 = .ok (.if_icmp .ge 7, 3) := by decide +kernel
theorem dX2_hasPath_12 : decode cX2_hasPath 12 = .ok (.iconst 1, 1) := by decide +kernel
theorem dX2_hasPath_13 : decode cX2_hasPath 13 = .ok (.goto 4, 3) := by decide +kernel
theorem dX2_hasPath_16 : decode cX2_hasPath 16 = .ok (.iconst 0, 1) := by decide +kernel
theorem dX2_hasPath_17 : decode cX2_hasPath 17 = .ok (.ireturn, 1) := by decide +kernel
set_option maxRecDepth 20000 in
theorem ggX2_hasPair_X2_pairWithin : GoodIn wsX2_hasPair wsX2_pairWithin := goodIn_r _ [5, 6, 7, 8, 4, 9, 10, 11, 12, 13, 14, 15, 16, 17, 18, 19, 20, 21] (by decide +kernel) (by decide +kernel)
set_option maxRecDepth 20000 in
theorem gX2_hasPair_X2_pairWithin : GoodIn wsX2_hasPair (wsV RX2 46 RX2 yX2_pairWithin wsX2_pairWithin) := goodIn_app (goodIn_of _ (by decide +kernel)) ggX2_hasPair_X2_pairWithin
theorem dX2_hasPair_0 : decode cX2_hasPair 0 = .ok (.iload_n 1, 1) := by decide +kernel
theorem dX2_hasPair_1 : decode cX2_hasPair 1 = .ok (.ifCond .lt 23, 3) := by decide +kernel
theorem dX2_hasPair_4 : decode cX2_hasPair 4 = .ok (.iload_n 1, 1) := by decide +kernel
theorem dX2_hasPair_5 : decode cX2_hasPair 5 = .ok (.sipush 256, 3) := by decide +kernel
theorem dX2_hasPair_8 : decode cX2_hasPair 8 = .ok (.if_icmp .ge 16, 3) := by decide +kernel
theorem dX2_hasPair_11 : decode cX2_hasPair 11 = .ok (.aload_n 0, 1) := by decide +kernel
theorem dX2_hasPair_12 : decode cX2_hasPair 12 = .ok (.iload_n 1, 1) := by decide +kernel
theorem dX2_hasPair_13 : decode cX2_hasPair 13 = .ok (.invokevirtual 46, 3) := by decide +kernel
theorem dX2_hasPair_16 : decode cX2_hasPair 16 = .ok (.iload_n 1, 1) := by decide +kernel
theorem dX2_hasPair_17 : decode cX2_hasPair 17 = .ok (.if_icmp .ne 7, 3) := by decide +kernel
theorem dX2_hasPair_20 : decode cX2_hasPair 20 = .ok (.iconst 1, 1) := by decide +kernel
theorem dX2_hasPair_21 : decode cX2_hasPair 21 = .ok (.goto 4, 3) := by decide +kernel
theorem dX2_hasPair_24 : decode cX2_hasPair 24 = .ok (.iconst 0, 1) := by decide +kernel
theorem dX2_hasPair_25 : decode cX2_hasPair 25 = .ok (.ireturn, 1) := by decide +kernel
theorem dX2_allBits_0 : decode cX2_allBits 0 = .ok (.iconst 1, 1) := by decide +kernel
theorem dX2_allBits_1 : decode cX2_allBits 1 = .ok (.aload_n 0, 1) := by decide +kernel
theorem dX2_allBits_2 : decode cX2_allBits 2 = .ok (.getfield 9, 3) := by decide +kernel
theorem dX2_allBits_5 : decode cX2_allBits 5 = .ok (.ishl, 1) := by decide +kernel
theorem dX2_allBits_6 : decode cX2_allBits 6 = .ok (.iconst 1, 1) := by decide +kernel
theorem dX2_allBits_7 : decode cX2_allBits 7 = .ok (.isub, 1) := by decide +kernel
theorem dX2_allBits_8 : decode cX2_allBits 8 = .ok (.ireturn, 1) := by decide +kernel
set_option maxRecDepth 20000 in
theorem ggX2_pairWithin_X2_allBits : GoodIn wsX2_pairWithin wsX2_allBits := goodIn_r _ [5, 6, 7, 8, 9, 10, 11, 12, 13, 14, 15, 16, 17] (by decide +kernel) (by decide +kernel)
set_option maxRecDepth 20000 in
theorem gX2_pairWithin_X2_allBits : GoodIn wsX2_pairWithin (wsV RX2 50 RX2 yX2_allBits wsX2_allBits) := goodIn_app (goodIn_of _ (by decide +kernel)) ggX2_pairWithin_X2_allBits
theorem dX2_pairWithin_0 : decode cX2_pairWithin 0 = .ok (.iload_n 1, 1) := by decide +kernel
theorem dX2_pairWithin_1 : decode cX2_pairWithin 1 = .ok (.aload_n 0, 1) := by decide +kernel
theorem dX2_pairWithin_2 : decode cX2_pairWithin 2 = .ok (.invokevirtual 50, 3) := by decide +kernel
theorem dX2_pairWithin_5 : decode cX2_pairWithin 5 = .ok (.iconst 4, 1) := by decide +kernel
theorem dX2_pairWithin_6 : decode cX2_pairWithin 6 = .ok (.ishl, 1) := by decide +kernel
theorem dX2_pairWithin_7 : decode cX2_pairWithin 7 = .ok (.aload_n 0, 1) := by decide +kernel
theorem dX2_pairWithin_8 : decode cX2_pairWithin 8 = .ok (.invokevirtual 50, 3) := by decide +kernel
theorem dX2_pairWithin_11 : decode cX2_pairWithin 11 = .ok (.ior, 1) := by decide +kernel
theorem dX2_pairWithin_12 : decode cX2_pairWithin 12 = .ok (.iand, 1) := by decide +kernel
theorem dX2_pairWithin_13 : decode cX2_pairWithin 13 = .ok (.ireturn, 1) := by decide +kernel
set_option maxRecDepth 20000 in
theorem ggX2_numberPaths_X2_addIfLinked : GoodIn wsX2_numberPaths wsX2_addIfLinked := goodIn_r _ [8, 1, 3, 9, 10, 11, 12, 13, 14, 15, 16, 17, 18, 19, 20, 21, 22, 23, 24, 25] (by decide +kernel) (by decide +kernel)
set_option maxRecDepth 20000 in
theorem gX2_numberPaths_X2_addIfLinked : GoodIn wsX2_numberPaths (wsV RX2 54 RX2 yX2_addIfLinked wsX2_addIfLinked) := goodIn_app (goodIn_of _ (by decide +kernel)) ggX2_numberPaths_X2_addIfLinked
theorem dX2_numberPaths_0 : decode cX2_numberPaths 0 = .ok (.aload_n 0, 1) := by decide +kernel
theorem dX2_numberPaths_1 : decode cX2_numberPaths 1 = .ok (.iconst 0, 1) := by decide +kernel
theorem dX2_numberPaths_2 : decode cX2_numberPaths 2 = .ok (.putfield 18, 3) := by decide +kernel
theorem dX2_numberPaths_5 : decode cX2_numberPaths 5 = .ok (.iconst 0, 1) := by decide +kernel
theorem dX2_numberPaths_6 : decode cX2_numberPaths 6 = .ok (.istore_n 1, 1) := by decide +kernel
theorem dX2_numberPaths_7 : decode cX2_numberPaths 7 = .ok (.iload_n 1, 1) := by decide +kernel
theorem dX2_numberPaths_8 : decode cX2_numberPaths 8 = .ok (.aload_n 0, 1) := by decide +kernel
theorem dX2_numberPaths_9 : decode cX2_numberPaths 9 = .ok (.getfield 9, 3) := by decide +kernel
theorem dX2_numberPaths_12 : decode cX2_numberPaths 12 = .ok (.if_icmp .ge 34, 3) := by decide +kernel
theorem dX2_numberPaths_15 : decode cX2_numberPaths 15 = .ok (.iconst 1, 1) := by decide +kernel
theorem dX2_numberPaths_16 : decode cX2_numberPaths 16 = .ok (.aload_n 0, 1) := by decide +kernel
theorem dX2_numberPaths_17 : decode cX2_numberPaths 17 = .ok (.getfield 15, 3) := by decide +kernel
theorem dX2_numberPaths_20 : decode cX2_numberPaths 20 = .ok (.ishl, 1) := by decide +kernel
theorem dX2_numberPaths_21 : decode cX2_numberPaths 21 = .ok (.iconst 1, 1) := by decide +kernel
theorem dX2_numberPaths_22 : decode cX2_numberPaths 22 = .ok (.isub, 1) := by decide +kernel
theorem dX2_numberPaths_23 : decode cX2_numberPaths 23 = .ok (.istore_n 2, 1) := by decide +kernel
theorem dX2_numberPaths_24 : decode cX2_numberPaths 24 = .ok (.iload_n 2, 1) := by decide +kernel
theorem dX2_numberPaths_25 : decode cX2_numberPaths 25 = .ok (.ifCond .le 15, 3) := by decide +kernel
theorem dX2_numberPaths_28 : decode cX2_numberPaths 28 = .ok (.aload_n 0, 1) := by decide +kernel
theorem dX2_numberPaths_29 : decode cX2_numberPaths 29 = .ok (.iload_n 1, 1) := by decide +kernel
theorem dX2_numberPaths_30 : decode cX2_numberPaths 30 = .ok (.iload_n 2, 1) := by decide +kernel
theorem dX2_numberPaths_31 : decode cX2_numberPaths 31 = .ok (.invokevirtual 54, 3) := by decide +kernel
theorem dX2_numberPaths_34 : decode cX2_numberPaths 34 = .ok (.iinc 2 (-2), 3) := by decide +kernel
theorem dX2_numberPaths_37 : decode cX2_numberPaths 37 = .ok (.goto (-13), 3) := by decide +kernel
theorem dX2_numberPaths_40 : decode cX2_numberPaths 40 = .ok (.iinc 1 1, 3) := by decide +kernel
theorem dX2_numberPaths_43 : decode cX2_numberPaths 43 = .ok (.goto (-36), 3) := by decide +kernel
theorem dX2_numberPaths_46 : decode cX2_numberPaths 46 = .ok (.return_, 1) := by decide +kernel
theorem dX2_addIfLinked_0 : decode cX2_addIfLinked 0 = .ok (.aload_n 0, 1) := by decide +kernel
theorem dX2_addIfLinked_1 : decode cX2_addIfLinked 1 = .ok (.getfield 18, 3) := by decide +kernel
theorem dX2_addIfLinked_4 : decode cX2_addIfLinked 4 = .ok (.bipush 55, 2) := by decide +kernel
theorem dX2_addIfLinked_6 : decode cX2_addIfLinked 6 = .ok (.if_icmp .lt 4, 3) := by decide +kernel
theorem dX2_addIfLinked_9 : decode cX2_addIfLinked 9 = .ok (.return_, 1) := by decide +kernel
theorem dX2_addIfLinked_10 : decode cX2_addIfLinked 10 = .ok (.iload_n 1, 1) := by decide +kernel
theorem dX2_addIfLinked_11 : decode cX2_addIfLinked 11 = .ok (.istore_n 3, 1) := by decide +kernel
theorem dX2_addIfLinked_12 : decode cX2_addIfLinked 12 = .ok (.iconst 0, 1) := by decide +kernel
theorem dX2_addIfLinked_13 : decode cX2_addIfLinked 13 = .ok (.istore 4, 2) := by decide +kernel
theorem dX2_addIfLinked_15 : decode cX2_addIfLinked 15 = .ok (.iconst 0, 1) := by decide +kernel
theorem dX2_addIfLinked_16 : decode cX2_addIfLinked 16 = .ok (.istore 5, 2) := by decide +kernel
theorem dX2_addIfLinked_18 : decode cX2_addIfLinked 18 = .ok (.iconst 0, 1) := by decide +kernel
theorem dX2_addIfLinked_19 : decode cX2_addIfLinked 19 = .ok (.istore 6, 2) := by decide +kernel
theorem dX2_addIfLinked_21 : decode cX2_addIfLinked 21 = .ok (.iload 6, 2) := by decide +kernel
theorem dX2_addIfLinked_23 : decode cX2_addIfLinked 23 = .ok (.aload_n 0, 1) := by decide +kernel
theorem dX2_addIfLinked_24 : decode cX2_addIfLinked 24 = .ok (.getfield 15, 3) := by decide +kernel
theorem dX2_addIfLinked_27 : decode cX2_addIfLinked 27 = .ok (.if_icmp .ge 101, 3) := by decide +kernel
theorem dX2_addIfLinked_30 : decode cX2_addIfLinked 30 = .ok (.iload_n 2, 1) := by decide +kernel
theorem dX2_addIfLinked_31 : decode cX2_addIfLinked 31 = .ok (.aload_n 0, 1) := by decide +kernel
theorem dX2_addIfLinked_32 : decode cX2_addIfLinked 32 = .ok (.getfield 15, 3) := by decide +kernel
theorem dX2_addIfLinked_35 : decode cX2_addIfLinked 35 = .ok (.iconst 1, 1) := by decide +kernel
theorem dX2_addIfLinked_36 : decode cX2_addIfLinked 36 = .ok (.isub, 1) := by decide +kernel
theorem dX2_addIfLinked_37 : decode cX2_addIfLinked 37 = .ok (.iload 6, 2) := by decide +kernel
theorem dX2_addIfLinked_39 : decode cX2_addIfLinked 39 = .ok (.isub, 1) := by decide +kernel
theorem dX2_addIfLinked_40 : decode cX2_addIfLinked 40 = .ok (.ishr, 1) := by decide +kernel
theorem dX2_addIfLinked_41 : decode cX2_addIfLinked 41 = .ok (.iconst 1, 1) := by decide +kernel
theorem dX2_addIfLinked_42 : decode cX2_addIfLinked 42 = .ok (.iand, 1) := by decide +kernel
theorem dX2_addIfLinked_43 : decode cX2_addIfLinked 43 = .ok (.iconst 1, 1) := by decide +kernel
theorem dX2_addIfLinked_44 : decode cX2_addIfLinked 44 = .ok (.if_icmp .ne 78, 3) := by decide +kernel
theorem dX2_addIfLinked_47 : decode cX2_addIfLinked 47 = .ok (.aload_n 0, 1) := by decide +kernel
theorem dX2_addIfLinked_48 : decode cX2_addIfLinked 48 = .ok (.getfield 25, 3) := by decide +kernel
theorem dX2_addIfLinked_51 : decode cX2_addIfLinked 51 = .ok (.iload 6, 2) := by decide +kernel
theorem dX2_addIfLinked_53 : decode cX2_addIfLinked 53 = .ok (.iaload, 1) := by decide +kernel
theorem dX2_addIfLinked_54 : decode cX2_addIfLinked 54 = .ok (.iload_n 3, 1) := by decide +kernel
theorem dX2_addIfLinked_55 : decode cX2_addIfLinked 55 = .ok (.if_icmp .eq 15, 3) := by decide +kernel
theorem dX2_addIfLinked_58 : decode cX2_addIfLinked 58 = .ok (.aload_n 0, 1) := by decide +kernel
theorem dX2_addIfLinked_59 : decode cX2_addIfLinked 59 = .ok (.getfield 28, 3) := by decide +kernel
theorem dX2_addIfLinked_62 : decode cX2_addIfLinked 62 = .ok (.iload 6, 2) := by decide +kernel
theorem dX2_addIfLinked_64 : decode cX2_addIfLinked 64 = .ok (.iaload, 1) := by decide +kernel
theorem dX2_addIfLinked_65 : decode cX2_addIfLinked 65 = .ok (.iload_n 3, 1) := by decide +kernel
theorem dX2_addIfLinked_66 : decode cX2_addIfLinked 66 = .ok (.if_icmp .eq 4, 3) := by decide +kernel
theorem dX2_addIfLinked_69 : decode cX2_addIfLinked 69 = .ok (.return_, 1) := by decide +kernel
theorem dX2_addIfLinked_70 : decode cX2_addIfLinked 70 = .ok (.iload 5, 2) := by decide +kernel
theorem dX2_addIfLinked_72 : decode cX2_addIfLinked 72 = .ok (.aload_n 0, 1) := by decide +kernel
theorem dX2_addIfLinked_73 : decode cX2_addIfLinked 73 = .ok (.getfield 25, 3) := by decide +kernel
theorem dX2_addIfLinked_76 : decode cX2_addIfLinked 76 = .ok (.iload 6, 2) := by decide +kernel
theorem dX2_addIfLinked_78 : decode cX2_addIfLinked 78 = .ok (.iaload, 1) := by decide +kernel
theorem dX2_addIfLinked_79 : decode cX2_addIfLinked 79 = .ok (.iload_n 3, 1) := by decide +kernel
theorem dX2_addIfLinked_80 : decode cX2_addIfLinked 80 = .ok (.if_icmp .ne 7, 3) := by decide +kernel
theorem dX2_addIfLinked_83 : decode cX2_addIfLinked 83 = .ok (.iconst 1, 1) := by decide +kernel
theorem dX2_addIfLinked_84 : decode cX2_addIfLinked 84 = .ok (.goto 4, 3) := by decide +kernel
theorem dX2_addIfLinked_87 : decode cX2_addIfLinked 87 = .ok (.iconst 2, 1) := by decide +kernel
theorem dX2_addIfLinked_88 : decode cX2_addIfLinked 88 = .ok (.iconst 2, 1) := by decide +kernel
theorem dX2_addIfLinked_89 : decode cX2_addIfLinked 89 = .ok (.iload 6, 2) := by decide +kernel
theorem dX2_addIfLinked_91 : decode cX2_addIfLinked 91 = .ok (.imul, 1) := by decide +kernel
theorem dX2_addIfLinked_92 : decode cX2_addIfLinked 92 = .ok (.ishl, 1) := by decide +kernel
theorem dX2_addIfLinked_93 : decode cX2_addIfLinked 93 = .ok (.ior, 1) := by decide +kernel
theorem dX2_addIfLinked_94 : decode cX2_addIfLinked 94 = .ok (.istore 5, 2) := by decide +kernel
theorem dX2_addIfLinked_96 : decode cX2_addIfLinked 96 = .ok (.aload_n 0, 1) := by decide +kernel
theorem dX2_addIfLinked_97 : decode cX2_addIfLinked 97 = .ok (.getfield 40, 3) := by decide +kernel
theorem dX2_addIfLinked_100 : decode cX2_addIfLinked 100 = .ok (.aload_n 0, 1) := by decide +kernel
theorem dX2_addIfLinked_101 : decode cX2_addIfLinked 101 = .ok (.getfield 18, 3) := by decide +kernel
theorem dX2_addIfLinked_104 : decode cX2_addIfLinked 104 = .ok (.bipush 8, 2) := by decide +kernel
theorem dX2_addIfLinked_106 : decode cX2_addIfLinked 106 = .ok (.imul, 1) := by decide +kernel
theorem dX2_addIfLinked_107 : decode cX2_addIfLinked 107 = .ok (.iload 4, 2) := by decide +kernel
theorem dX2_addIfLinked_109 : decode cX2_addIfLinked 109 = .ok (.iadd, 1) := by decide +kernel
theorem dX2_addIfLinked_110 : decode cX2_addIfLinked 110 = .ok (.iload 6, 2) := by decide +kernel
theorem dX2_addIfLinked_112 : decode cX2_addIfLinked 112 = .ok (.iastore, 1) := by decide +kernel
theorem dX2_addIfLinked_113 : decode cX2_addIfLinked 113 = .ok (.iinc 4 1, 3) := by decide +kernel
theorem dX2_addIfLinked_116 : decode cX2_addIfLinked 116 = .ok (.bipush 10, 2) := by decide +kernel
theorem dX2_addIfLinked_118 : decode cX2_addIfLinked 118 = .ok (.iload 6, 2) := by decide +kernel
theorem dX2_addIfLinked_120 : decode cX2_addIfLinked 120 = .ok (.iadd, 1) := by decide +kernel
theorem dX2_addIfLinked_121 : decode cX2_addIfLinked 121 = .ok (.istore_n 3, 1) := by decide +kernel
theorem dX2_addIfLinked_122 : decode cX2_addIfLinked 122 = .ok (.iinc 6 1, 3) := by decide +kernel
theorem dX2_addIfLinked_125 : decode cX2_addIfLinked 125 = .ok (.goto (-104), 3) := by decide +kernel
theorem dX2_addIfLinked_128 : decode cX2_addIfLinked 128 = .ok (.aload_n 0, 1) := by decide +kernel
theorem dX2_addIfLinked_129 : decode cX2_addIfLinked 129 = .ok (.getfield 34, 3) := by decide +kernel
theorem dX2_addIfLinked_132 : decode cX2_addIfLinked 132 = .ok (.aload_n 0, 1) := by decide +kernel
theorem dX2_addIfLinked_133 : decode cX2_addIfLinked 133 = .ok (.getfield 18, 3) := by decide +kernel
theorem dX2_addIfLinked_136 : decode cX2_addIfLinked 136 = .ok (.iload_n 1, 1) := by decide +kernel
theorem dX2_addIfLinked_137 : decode cX2_addIfLinked 137 = .ok (.iastore, 1) := by decide +kernel
theorem dX2_addIfLinked_138 : decode cX2_addIfLinked 138 = .ok (.aload_n 0, 1) := by decide +kernel
theorem dX2_addIfLinked_139 : decode cX2_addIfLinked 139 = .ok (.getfield 37, 3) := by decide +kernel
theorem dX2_addIfLinked_142 : decode cX2_addIfLinked 142 = .ok (.aload_n 0, 1) := by decide +kernel
theorem dX2_addIfLinked_143 : decode cX2_addIfLinked 143 = .ok (.getfield 18, 3) := by decide +kernel
theorem dX2_addIfLinked_146 : decode cX2_addIfLinked 146 = .ok (.iload 4, 2) := by decide +kernel
theorem dX2_addIfLinked_148 : decode cX2_addIfLinked 148 = .ok (.iastore, 1) := by decide +kernel
theorem dX2_addIfLinked_149 : decode cX2_addIfLinked 149 = .ok (.aload_n 0, 1) := by decide +kernel
theorem dX2_addIfLinked_150 : decode cX2_addIfLinked 150 = .ok (.getfield 43, 3) := by decide +kernel
theorem dX2_addIfLinked_153 : decode cX2_addIfLinked 153 = .ok (.aload_n 0, 1) := by decide +kernel
theorem dX2_addIfLinked_154 : decode cX2_addIfLinked 154 = .ok (.getfield 18, 3) := by decide +kernel
theorem dX2_addIfLinked_157 : decode cX2_addIfLinked 157 = .ok (.iload 5, 2) := by decide +kernel
theorem dX2_addIfLinked_159 : decode cX2_addIfLinked 159 = .ok (.iastore, 1) := by decide +kernel
theorem dX2_addIfLinked_160 : decode cX2_addIfLinked 160 = .ok (.aload_n 0, 1) := by decide +kernel
theorem dX2_addIfLinked_161 : decode cX2_addIfLinked 161 = .ok (.dup, 1) := by decide +kernel
theorem dX2_addIfLinked_162 : decode cX2_addIfLinked 162 = .ok (.getfield 18, 3) := by decide +kernel
theorem dX2_addIfLinked_165 : decode cX2_addIfLinked 165 = .ok (.iconst 1, 1) := by decide +kernel
theorem dX2_addIfLinked_166 : decode cX2_addIfLinked 166 = .ok (.iadd, 1) := by decide +kernel
theorem dX2_addIfLinked_167 : decode cX2_addIfLinked 167 = .ok (.putfield 18, 3) := by decide +kernel
theorem dX2_addIfLinked_170 : decode cX2_addIfLinked 170 = .ok (.return_, 1) := by decide +kernel
theorem dX2_stepOf_0 : decode cX2_stepOf 0 = .ok (.iload_n 2, 1) := by decide +kernel
theorem dX2_stepOf_1 : decode cX2_stepOf 1 = .ok (.ifCond .lt 27, 3) := by decide +kernel
theorem dX2_stepOf_4 : decode cX2_stepOf 4 = .ok (.iload_n 2, 1) := by decide +kernel
theorem dX2_stepOf_5 : decode cX2_stepOf 5 = .ok (.aload_n 0, 1) := by decide +kernel
theorem dX2_stepOf_6 : decode cX2_stepOf 6 = .ok (.getfield 37, 3) := by decide +kernel
theorem dX2_stepOf_9 : decode cX2_stepOf 9 = .ok (.iload_n 1, 1) := by decide +kernel
theorem dX2_stepOf_10 : decode cX2_stepOf 10 = .ok (.iaload, 1) := by decide +kernel
theorem dX2_stepOf_11 : decode cX2_stepOf 11 = .ok (.if_icmp .ge 17, 3) := by decide +kernel
theorem dX2_stepOf_14 : decode cX2_stepOf 14 = .ok (.aload_n 0, 1) := by decide +kernel
theorem dX2_stepOf_15 : decode cX2_stepOf 15 = .ok (.getfield 40, 3) := by decide +kernel
theorem dX2_stepOf_18 : decode cX2_stepOf 18 = .ok (.iload_n 1, 1) := by decide +kernel
theorem dX2_stepOf_19 : decode cX2_stepOf 19 = .ok (.bipush 8, 2) := by decide +kernel
theorem dX2_stepOf_21 : decode cX2_stepOf 21 = .ok (.imul, 1) := by decide +kernel
theorem dX2_stepOf_22 : decode cX2_stepOf 22 = .ok (.iload_n 2, 1) := by decide +kernel
theorem dX2_stepOf_23 : decode cX2_stepOf 23 = .ok (.iadd, 1) := by decide +kernel
theorem dX2_stepOf_24 : decode cX2_stepOf 24 = .ok (.iaload, 1) := by decide +kernel
theorem dX2_stepOf_25 : decode cX2_stepOf 25 = .ok (.goto 5, 3) := by decide +kernel
theorem dX2_stepOf_28 : decode cX2_stepOf 28 = .ok (.bipush (-9), 2) := by decide +kernel
theorem dX2_stepOf_30 : decode cX2_stepOf 30 = .ok (.ireturn, 1) := by decide +kernel
theorem dX2_lengthOf_0 : decode cX2_lengthOf 0 = .ok (.iconst 0, 1) := by decide +kernel
theorem dX2_lengthOf_1 : decode cX2_lengthOf 1 = .ok (.istore_n 3, 1) := by decide +kernel
theorem dX2_lengthOf_2 : decode cX2_lengthOf 2 = .ok (.iconst 0, 1) := by decide +kernel
theorem dX2_lengthOf_3 : decode cX2_lengthOf 3 = .ok (.istore 4, 2) := by decide +kernel
theorem dX2_lengthOf_5 : decode cX2_lengthOf 5 = .ok (.iload 4, 2) := by decide +kernel
theorem dX2_lengthOf_7 : decode cX2_lengthOf 7 = .ok (.aload_n 0, 1) := by decide +kernel
theorem dX2_lengthOf_8 : decode cX2_lengthOf 8 = .ok (.getfield 37, 3) := by decide +kernel
theorem dX2_lengthOf_11 : decode cX2_lengthOf 11 = .ok (.iload_n 1, 1) := by decide +kernel
theorem dX2_lengthOf_12 : decode cX2_lengthOf 12 = .ok (.iaload, 1) := by decide +kernel
theorem dX2_lengthOf_13 : decode cX2_lengthOf 13 = .ok (.if_icmp .ge 26, 3) := by decide +kernel
theorem dX2_lengthOf_16 : decode cX2_lengthOf 16 = .ok (.iload_n 3, 1) := by decide +kernel
theorem dX2_lengthOf_17 : decode cX2_lengthOf 17 = .ok (.aload_n 2, 1) := by decide +kernel
theorem dX2_lengthOf_18 : decode cX2_lengthOf 18 = .ok (.aload_n 0, 1) := by decide +kernel
theorem dX2_lengthOf_19 : decode cX2_lengthOf 19 = .ok (.getfield 40, 3) := by decide +kernel
theorem dX2_lengthOf_22 : decode cX2_lengthOf 22 = .ok (.iload_n 1, 1) := by decide +kernel
theorem dX2_lengthOf_23 : decode cX2_lengthOf 23 = .ok (.bipush 8, 2) := by decide +kernel
theorem dX2_lengthOf_25 : decode cX2_lengthOf 25 = .ok (.imul, 1) := by decide +kernel
theorem dX2_lengthOf_26 : decode cX2_lengthOf 26 = .ok (.iload 4, 2) := by decide +kernel
theorem dX2_lengthOf_28 : decode cX2_lengthOf 28 = .ok (.iadd, 1) := by decide +kernel
theorem dX2_lengthOf_29 : decode cX2_lengthOf 29 = .ok (.iaload, 1) := by decide +kernel
theorem dX2_lengthOf_30 : decode cX2_lengthOf 30 = .ok (.iaload, 1) := by decide +kernel
theorem dX2_lengthOf_31 : decode cX2_lengthOf 31 = .ok (.iadd, 1) := by decide +kernel
theorem dX2_lengthOf_32 : decode cX2_lengthOf 32 = .ok (.istore_n 3, 1) := by decide +kernel
theorem dX2_lengthOf_33 : decode cX2_lengthOf 33 = .ok (.iinc 4 1, 3) := by decide +kernel
theorem dX2_lengthOf_36 : decode cX2_lengthOf 36 = .ok (.goto (-31), 3) := by decide +kernel
theorem dX2_lengthOf_39 : decode cX2_lengthOf 39 = .ok (.iload_n 3, 1) := by decide +kernel
theorem dX2_lengthOf_40 : decode cX2_lengthOf 40 = .ok (.ireturn, 1) := by decide +kernel
theorem dX2_beginning_0 : decode cX2_beginning 0 = .ok (.aload_n 0, 1) := by decide +kernel
theorem dX2_beginning_1 : decode cX2_beginning 1 = .ok (.getfield 40, 3) := by decide +kernel
theorem dX2_beginning_4 : decode cX2_beginning 4 = .ok (.iload_n 1, 1) := by decide +kernel
theorem dX2_beginning_5 : decode cX2_beginning 5 = .ok (.bipush 8, 2) := by decide +kernel
theorem dX2_beginning_7 : decode cX2_beginning 7 = .ok (.imul, 1) := by decide +kernel
theorem dX2_beginning_8 : decode cX2_beginning 8 = .ok (.iload_n 2, 1) := by decide +kernel
theorem dX2_beginning_9 : decode cX2_beginning 9 = .ok (.iadd, 1) := by decide +kernel
theorem dX2_beginning_10 : decode cX2_beginning 10 = .ok (.iconst 1, 1) := by decide +kernel
theorem dX2_beginning_11 : decode cX2_beginning 11 = .ok (.isub, 1) := by decide +kernel
theorem dX2_beginning_12 : decode cX2_beginning 12 = .ok (.iaload, 1) := by decide +kernel
theorem dX2_beginning_13 : decode cX2_beginning 13 = .ok (.istore_n 3, 1) := by decide +kernel
theorem dX2_beginning_14 : decode cX2_beginning 14 = .ok (.aload_n 0, 1) := by decide +kernel
theorem dX2_beginning_15 : decode cX2_beginning 15 = .ok (.getfield 43, 3) := by decide +kernel
theorem dX2_beginning_18 : decode cX2_beginning 18 = .ok (.iload_n 1, 1) := by decide +kernel
theorem dX2_beginning_19 : decode cX2_beginning 19 = .ok (.iaload, 1) := by decide +kernel
theorem dX2_beginning_20 : decode cX2_beginning 20 = .ok (.iconst 1, 1) := by decide +kernel
theorem dX2_beginning_21 : decode cX2_beginning 21 = .ok (.iconst 2, 1) := by decide +kernel
theorem dX2_beginning_22 : decode cX2_beginning 22 = .ok (.iload_n 3, 1) := by decide +kernel
theorem dX2_beginning_23 : decode cX2_beginning 23 = .ok (.imul, 1) := by decide +kernel
theorem dX2_beginning_24 : decode cX2_beginning 24 = .ok (.iconst 2, 1) := by decide +kernel
theorem dX2_beginning_25 : decode cX2_beginning 25 = .ok (.iadd, 1) := by decide +kernel
theorem dX2_beginning_26 : decode cX2_beginning 26 = .ok (.ishl, 1) := by decide +kernel
theorem dX2_beginning_27 : decode cX2_beginning 27 = .ok (.iconst 1, 1) := by decide +kernel
theorem dX2_beginning_28 : decode cX2_beginning 28 = .ok (.isub, 1) := by decide +kernel
theorem dX2_beginning_29 : decode cX2_beginning 29 = .ok (.iand, 1) := by decide +kernel
theorem dX2_beginning_30 : decode cX2_beginning 30 = .ok (.ireturn, 1) := by decide +kernel
set_option maxRecDepth 20000 in
theorem ggX2_isSharedBefore_X2_beginning : GoodIn wsX2_isSharedBefore wsX2_beginning := goodIn_r _ [7, 8, 9, 10, 11, 12, 13, 14, 15, 16, 17, 18, 19, 20] (by decide +kernel) (by decide +kernel)
set_option maxRecDepth 20000 in
theorem gX2_isSharedBefore_X2_beginning : GoodIn wsX2_isSharedBefore (wsV RX2 58 RX2 yX2_beginning wsX2_beginning) := goodIn_app (goodIn_of _ (by decide +kernel)) ggX2_isSharedBefore_X2_beginning
theorem dX2_isSharedBefore_0 : decode cX2_isSharedBefore 0 = .ok (.iload_n 1, 1) := by decide +kernel
theorem dX2_isSharedBefore_1 : decode cX2_isSharedBefore 1 = .ok (.iconst 1, 1) := by decide +kernel
theorem dX2_isSharedBefore_2 : decode cX2_isSharedBefore 2 = .ok (.isub, 1) := by decide +kernel
theorem dX2_isSharedBefore_3 : decode cX2_isSharedBefore 3 = .ok (.istore_n 3, 1) := by decide +kernel
theorem dX2_isSharedBefore_4 : decode cX2_isSharedBefore 4 = .ok (.iload_n 3, 1) := by decide +kernel
theorem dX2_isSharedBefore_5 : decode cX2_isSharedBefore 5 = .ok (.ifCond .lt 47, 3) := by decide +kernel
theorem dX2_isSharedBefore_8 : decode cX2_isSharedBefore 8 = .ok (.aload_n 0, 1) := by decide +kernel
theorem dX2_isSharedBefore_9 : decode cX2_isSharedBefore 9 = .ok (.getfield 34, 3) := by decide +kernel
theorem dX2_isSharedBefore_12 : decode cX2_isSharedBefore 12 = .ok (.iload_n 1, 1) := by decide +kernel
theorem dX2_isSharedBefore_13 : decode cX2_isSharedBefore 13 = .ok (.iaload, 1) := by decide +kernel
theorem dX2_isSharedBefore_14 : decode cX2_isSharedBefore 14 = .ok (.aload_n 0, 1) := by decide +kernel
theorem dX2_isSharedBefore_15 : decode cX2_isSharedBefore 15 = .ok (.getfield 34, 3) := by decide +kernel
theorem dX2_isSharedBefore_18 : decode cX2_isSharedBefore 18 = .ok (.iload_n 3, 1) := by decide +kernel
theorem dX2_isSharedBefore_19 : decode cX2_isSharedBefore 19 = .ok (.iaload, 1) := by decide +kernel
theorem dX2_isSharedBefore_20 : decode cX2_isSharedBefore 20 = .ok (.if_icmp .ne 32, 3) := by decide +kernel
theorem dX2_isSharedBefore_23 : decode cX2_isSharedBefore 23 = .ok (.aload_n 0, 1) := by decide +kernel
theorem dX2_isSharedBefore_24 : decode cX2_isSharedBefore 24 = .ok (.getfield 37, 3) := by decide +kernel
theorem dX2_isSharedBefore_27 : decode cX2_isSharedBefore 27 = .ok (.iload_n 3, 1) := by decide +kernel
theorem dX2_isSharedBefore_28 : decode cX2_isSharedBefore 28 = .ok (.iaload, 1) := by decide +kernel
theorem dX2_isSharedBefore_29 : decode cX2_isSharedBefore 29 = .ok (.iload_n 2, 1) := by decide +kernel
theorem dX2_isSharedBefore_30 : decode cX2_isSharedBefore 30 = .ok (.if_icmp .lt 22, 3) := by decide +kernel
theorem dX2_isSharedBefore_33 : decode cX2_isSharedBefore 33 = .ok (.aload_n 0, 1) := by decide +kernel
theorem dX2_isSharedBefore_34 : decode cX2_isSharedBefore 34 = .ok (.iload_n 1, 1) := by decide +kernel
theorem dX2_isSharedBefore_35 : decode cX2_isSharedBefore 35 = .ok (.iload_n 2, 1) := by decide +kernel
theorem dX2_isSharedBefore_36 : decode cX2_isSharedBefore 36 = .ok (.invokevirtual 58, 3) := by decide +kernel
theorem dX2_isSharedBefore_39 : decode cX2_isSharedBefore 39 = .ok (.aload_n 0, 1) := by decide +kernel
theorem dX2_isSharedBefore_40 : decode cX2_isSharedBefore 40 = .ok (.iload_n 3, 1) := by decide +kernel
theorem dX2_isSharedBefore_41 : decode cX2_isSharedBefore 41 = .ok (.iload_n 2, 1) := by decide +kernel
theorem dX2_isSharedBefore_42 : decode cX2_isSharedBefore 42 = .ok (.invokevirtual 58, 3) := by decide +kernel
theorem dX2_isSharedBefore_45 : decode cX2_isSharedBefore 45 = .ok (.if_icmp .ne 7, 3) := by decide +kernel
theorem dX2_isSharedBefore_48 : decode cX2_isSharedBefore 48 = .ok (.iconst 1, 1) := by decide +kernel
theorem dX2_isSharedBefore_49 : decode cX2_isSharedBefore 49 = .ok (.goto 4, 3) := by decide +kernel
theorem dX2_isSharedBefore_52 : decode cX2_isSharedBefore 52 = .ok (.iconst 0, 1) := by decide +kernel
theorem dX2_isSharedBefore_53 : decode cX2_isSharedBefore 53 = .ok (.ireturn, 1) := by decide +kernel
set_option maxRecDepth 20000 in
theorem ggX3_init_X1_init : GoodIn wsX3_init wsX1_init := goodIn_r _ [16, 17, 2, 3, 8, 18, 19, 20, 21, 22, 23] (by decide +kernel) (by decide +kernel)
set_option maxRecDepth 20000 in
theorem gX3_init_X1_init_n11 : GoodIn wsX3_init (wsX1_init) := ggX3_init_X1_init
theorem dX3_init_0 : decode cX3_init 0 = .ok (.aload_n 0, 1) := by decide +kernel
theorem dX3_init_1 : decode cX3_init 1 = .ok (.invokespecial 3, 3) := by decide +kernel
theorem dX3_init_4 : decode cX3_init 4 = .ok (.aload_n 0, 1) := by decide +kernel
theorem dX3_init_5 : decode cX3_init 5 = .ok (.new 9, 3) := by decide +kernel
theorem dX3_init_8 : decode cX3_init 8 = .ok (.dup, 1) := by decide +kernel
theorem dX3_init_9 : decode cX3_init 9 = .ok (.invokespecial 11, 3) := by decide +kernel
theorem dX3_init_12 : decode cX3_init 12 = .ok (.putfield 12, 3) := by decide +kernel
theorem dX3_init_15 : decode cX3_init 15 = .ok (.aload_n 0, 1) := by decide +kernel
theorem dX3_init_16 : decode cX3_init 16 = .ok (.sipush 256, 3) := by decide +kernel
theorem dX3_init_19 : decode cX3_init 19 = .ok (.newarray .int, 2) := by decide +kernel
theorem dX3_init_21 : decode cX3_init 21 = .ok (.putfield 18, 3) := by decide +kernel
theorem dX3_init_24 : decode cX3_init 24 = .ok (.aload_n 0, 1) := by decide +kernel
theorem dX3_init_25 : decode cX3_init 25 = .ok (.sipush 256, 3) := by decide +kernel
theorem dX3_init_28 : decode cX3_init 28 = .ok (.newarray .long, 2) := by decide +kernel
theorem dX3_init_30 : decode cX3_init 30 = .ok (.putfield 22, 3) := by decide +kernel
theorem dX3_init_33 : decode cX3_init 33 = .ok (.aload_n 0, 1) := by decide +kernel
theorem dX3_init_34 : decode cX3_init 34 = .ok (.sipush 256, 3) := by decide +kernel
theorem dX3_init_37 : decode cX3_init 37 = .ok (.newarray .long, 2) := by decide +kernel
theorem dX3_init_39 : decode cX3_init 39 = .ok (.putfield 26, 3) := by decide +kernel
theorem dX3_init_42 : decode cX3_init 42 = .ok (.aload_n 0, 1) := by decide +kernel
theorem dX3_init_43 : decode cX3_init 43 = .ok (.bipush 16, 2) := by decide +kernel
theorem dX3_init_45 : decode cX3_init 45 = .ok (.newarray .int, 2) := by decide +kernel
theorem dX3_init_47 : decode cX3_init 47 = .ok (.putfield 29, 3) := by decide +kernel
theorem dX3_init_50 : decode cX3_init 50 = .ok (.aload_n 0, 1) := by decide +kernel
theorem dX3_init_51 : decode cX3_init 51 = .ok (.iconst (-1), 1) := by decide +kernel
theorem dX3_init_52 : decode cX3_init 52 = .ok (.putfield 32, 3) := by decide +kernel
theorem dX3_init_55 : decode cX3_init 55 = .ok (.return_, 1) := by decide +kernel
theorem dX3_forget_0 : decode cX3_forget 0 = .ok (.aload_n 0, 1) := by decide +kernel
theorem dX3_forget_1 : decode cX3_forget 1 = .ok (.iconst (-1), 1) := by decide +kernel
theorem dX3_forget_2 : decode cX3_forget 2 = .ok (.putfield 32, 3) := by decide +kernel
theorem dX3_forget_5 : decode cX3_forget 5 = .ok (.return_, 1) := by decide +kernel
set_option maxRecDepth 20000 in
theorem ggX3_fitTo_X3_makeRow : GoodIn wsX3_fitTo wsX3_makeRow := goodIn_r _ [7, 8, 9, 10, 11, 12, 13, 14, 15, 16, 17, 18, 19, 20, 21, 22, 23, 24, 25, 26, 27, 28, 29, 30, 31, 32, 33, 34, 35, 36, 37, 38, 39, 40, 41, 42, 43, 44, 45, 46, 47, 48, 49, 50, 51, 52, 53, 54, 55, 56, 57, 58, 59, 60, 61, 62, 63, 64, 6, 65, 66, 67, 68, 69, 70, 71, 72, 84, 85, 86, 87, 88, 89, 90, 91, 92, 73, 74, 75, 76, 77, 78, 79, 80, 81, 82, 83] (by decide +kernel) (by decide +kernel)
set_option maxRecDepth 20000 in
theorem gX3_fitTo_X3_makeRow : GoodIn wsX3_fitTo (wsV RX3 41 RX3 yX3_makeRow wsX3_makeRow) := goodIn_app (goodIn_of _ (by decide +kernel)) ggX3_fitTo_X3_makeRow
theorem dX3_fitTo_0 : decode cX3_fitTo 0 = .ok (.iconst 0, 1) := by decide +kernel
theorem dX3_fitTo_1 : decode cX3_fitTo 1 = .ok (.istore_n 3, 1) := by decide +kernel
theorem dX3_fitTo_2 : decode cX3_fitTo 2 = .ok (.iconst 0, 1) := by decide +kernel
theorem dX3_fitTo_3 : decode cX3_fitTo 3 = .ok (.istore 4, 2) := by decide +kernel
theorem dX3_fitTo_5 : decode cX3_fitTo 5 = .ok (.iload 4, 2) := by decide +kernel
theorem dX3_fitTo_7 : decode cX3_fitTo 7 = .ok (.aload_n 1, 1) := by decide +kernel
theorem dX3_fitTo_8 : decode cX3_fitTo 8 = .ok (.getfield 36, 3) := by decide +kernel
theorem dX3_fitTo_11 : decode cX3_fitTo 11 = .ok (.if_icmp .ge 21, 3) := by decide +kernel
theorem dX3_fitTo_14 : decode cX3_fitTo 14 = .ok (.iload_n 3, 1) := by decide +kernel
theorem dX3_fitTo_15 : decode cX3_fitTo 15 = .ok (.aload_n 2, 1) := by decide +kernel
theorem dX3_fitTo_16 : decode cX3_fitTo 16 = .ok (.iload 4, 2) := by decide +kernel
theorem dX3_fitTo_18 : decode cX3_fitTo 18 = .ok (.iaload, 1) := by decide +kernel
theorem dX3_fitTo_19 : decode cX3_fitTo 19 = .ok (.iconst 3, 1) := by decide +kernel
theorem dX3_fitTo_20 : decode cX3_fitTo 20 = .ok (.iload 4, 2) := by decide +kernel
theorem dX3_fitTo_22 : decode cX3_fitTo 22 = .ok (.imul, 1) := by decide +kernel
theorem dX3_fitTo_23 : decode cX3_fitTo 23 = .ok (.ishl, 1) := by decide +kernel
theorem dX3_fitTo_24 : decode cX3_fitTo 24 = .ok (.ior, 1) := by decide +kernel
theorem dX3_fitTo_25 : decode cX3_fitTo 25 = .ok (.istore_n 3, 1) := by decide +kernel
theorem dX3_fitTo_26 : decode cX3_fitTo 26 = .ok (.iinc 4 1, 3) := by decide +kernel
theorem dX3_fitTo_29 : decode cX3_fitTo 29 = .ok (.goto (-24), 3) := by decide +kernel
theorem dX3_fitTo_32 : decode cX3_fitTo 32 = .ok (.iload_n 3, 1) := by decide +kernel
theorem dX3_fitTo_33 : decode cX3_fitTo 33 = .ok (.aload_n 0, 1) := by decide +kernel
theorem dX3_fitTo_34 : decode cX3_fitTo 34 = .ok (.getfield 32, 3) := by decide +kernel
theorem dX3_fitTo_37 : decode cX3_fitTo 37 = .ok (.if_icmp .ne 4, 3) := by decide +kernel
theorem dX3_fitTo_40 : decode cX3_fitTo 40 = .ok (.return_, 1) := by decide +kernel
theorem dX3_fitTo_41 : decode cX3_fitTo 41 = .ok (.aload_n 0, 1) := by decide +kernel
theorem dX3_fitTo_42 : decode cX3_fitTo 42 = .ok (.iload_n 3, 1) := by decide +kernel
theorem dX3_fitTo_43 : decode cX3_fitTo 43 = .ok (.putfield 32, 3) := by decide +kernel
theorem dX3_fitTo_46 : decode cX3_fitTo 46 = .ok (.iconst 0, 1) := by decide +kernel
theorem dX3_fitTo_47 : decode cX3_fitTo 47 = .ok (.istore 4, 2) := by decide +kernel
theorem dX3_fitTo_49 : decode cX3_fitTo 49 = .ok (.iload 4, 2) := by decide +kernel
theorem dX3_fitTo_51 : decode cX3_fitTo 51 = .ok (.sipush 256, 3) := by decide +kernel
theorem dX3_fitTo_54 : decode cX3_fitTo 54 = .ok (.if_icmp .ge 17, 3) := by decide +kernel
theorem dX3_fitTo_57 : decode cX3_fitTo 57 = .ok (.aload_n 0, 1) := by decide +kernel
theorem dX3_fitTo_58 : decode cX3_fitTo 58 = .ok (.aload_n 1, 1) := by decide +kernel
theorem dX3_fitTo_59 : decode cX3_fitTo 59 = .ok (.aload_n 2, 1) := by decide +kernel
theorem dX3_fitTo_60 : decode cX3_fitTo 60 = .ok (.iload 4, 2) := by decide +kernel
theorem dX3_fitTo_62 : decode cX3_fitTo 62 = .ok (.invokevirtual 41, 3) := by decide +kernel
theorem dX3_fitTo_65 : decode cX3_fitTo 65 = .ok (.iinc 4 1, 3) := by decide +kernel
theorem dX3_fitTo_68 : decode cX3_fitTo 68 = .ok (.goto (-19), 3) := by decide +kernel
theorem dX3_fitTo_71 : decode cX3_fitTo 71 = .ok (.return_, 1) := by decide +kernel
set_option maxRecDepth 20000 in
theorem ggX3_makeRow_X2_hasPair : GoodIn wsX3_makeRow wsX2_hasPair := goodIn_r _ [14, 15, 16, 17, 13, 18, 19, 20, 21, 22, 23, 76, 77, 78, 79, 80, 81, 82, 83, 84, 85, 86] (by decide +kernel) (by decide +kernel)
set_option maxRecDepth 20000 in
theorem gX3_makeRow_X2_hasPair : GoodIn wsX3_makeRow (wsV RX3 45 RX2 yX2_hasPair wsX2_hasPair) := goodIn_app (goodIn_of _ (by decide +kernel)) ggX3_makeRow_X2_hasPair
set_option maxRecDepth 20000 in
theorem ggX3_makeRow_X1_settle : GoodIn wsX3_makeRow wsX1_settle := goodIn_r _ [28, 29, 30, 31, 32, 33, 34, 35, 36, 37, 27, 38, 39, 40, 41, 42, 43, 44, 45, 46, 47, 48, 49, 50, 51, 52, 53, 54, 76, 77, 78, 79, 80, 81, 82, 83, 84, 85, 86, 73, 74, 75] (by decide +kernel) (by decide +kernel)
set_option maxRecDepth 20000 in
theorem gX3_makeRow_X1_settle : GoodIn wsX3_makeRow (wsV RX3 49 RX1 yX1_settle wsX1_settle) := goodIn_app (goodIn_of _ (by decide +kernel)) ggX3_makeRow_X1_settle
set_option maxRecDepth 20000 in
theorem ggX3_makeRow_X3_holds : GoodIn wsX3_makeRow wsX3_holds := goodIn_r _ [59, 1, 67, 68, 69, 70, 71, 72] (by decide +kernel) (by decide +kernel)
set_option maxRecDepth 20000 in
theorem gX3_makeRow_X3_holds : GoodIn wsX3_makeRow (wsV RX3 60 RX3 yX3_holds wsX3_holds) := goodIn_app (goodIn_of _ (by decide +kernel)) ggX3_makeRow_X3_holds
set_option maxRecDepth 20000 in
theorem ggX3_makeRow_X3_nextPattern : GoodIn wsX3_makeRow wsX3_nextPattern := goodIn_r _ [63, 64, 4, 65, 66, 76, 77, 78, 79, 80, 81, 82, 83, 84, 85, 86, 67, 68, 69, 70, 71, 72, 73, 74, 75] (by decide +kernel) (by decide +kernel)
set_option maxRecDepth 20000 in
theorem gX3_makeRow_X3_nextPattern : GoodIn wsX3_makeRow (wsV RX3 67 RX3 yX3_nextPattern wsX3_nextPattern) := goodIn_app (goodIn_of _ (by decide +kernel)) ggX3_makeRow_X3_nextPattern
theorem dX3_makeRow_0 : decode cX3_makeRow 0 = .ok (.aload_n 0, 1) := by decide +kernel
theorem dX3_makeRow_1 : decode cX3_makeRow 1 = .ok (.getfield 18, 3) := by decide +kernel
theorem dX3_makeRow_4 : decode cX3_makeRow 4 = .ok (.iload_n 3, 1) := by decide +kernel
theorem dX3_makeRow_5 : decode cX3_makeRow 5 = .ok (.iconst 0, 1) := by decide +kernel
theorem dX3_makeRow_6 : decode cX3_makeRow 6 = .ok (.iastore, 1) := by decide +kernel
theorem dX3_makeRow_7 : decode cX3_makeRow 7 = .ok (.aload_n 0, 1) := by decide +kernel
theorem dX3_makeRow_8 : decode cX3_makeRow 8 = .ok (.getfield 22, 3) := by decide +kernel
theorem dX3_makeRow_11 : decode cX3_makeRow 11 = .ok (.iload_n 3, 1) := by decide +kernel
theorem dX3_makeRow_12 : decode cX3_makeRow 12 = .ok (.lconst 0, 1) := by decide +kernel
theorem dX3_makeRow_13 : decode cX3_makeRow 13 = .ok (.lastore, 1) := by decide +kernel
theorem dX3_makeRow_14 : decode cX3_makeRow 14 = .ok (.aload_n 0, 1) := by decide +kernel
theorem dX3_makeRow_15 : decode cX3_makeRow 15 = .ok (.getfield 26, 3) := by decide +kernel
theorem dX3_makeRow_18 : decode cX3_makeRow 18 = .ok (.iload_n 3, 1) := by decide +kernel
theorem dX3_makeRow_19 : decode cX3_makeRow 19 = .ok (.lconst 0, 1) := by decide +kernel
theorem dX3_makeRow_20 : decode cX3_makeRow 20 = .ok (.lastore, 1) := by decide +kernel
theorem dX3_makeRow_21 : decode cX3_makeRow 21 = .ok (.aload_n 1, 1) := by decide +kernel
theorem dX3_makeRow_22 : decode cX3_makeRow 22 = .ok (.iload_n 3, 1) := by decide +kernel
theorem dX3_makeRow_23 : decode cX3_makeRow 23 = .ok (.invokevirtual 45, 3) := by decide +kernel
theorem dX3_makeRow_26 : decode cX3_makeRow 26 = .ok (.ifCond .ne 4, 3) := by decide +kernel
theorem dX3_makeRow_29 : decode cX3_makeRow 29 = .ok (.return_, 1) := by decide +kernel
theorem dX3_makeRow_30 : decode cX3_makeRow 30 = .ok (.iload_n 3, 1) := by decide +kernel
theorem dX3_makeRow_31 : decode cX3_makeRow 31 = .ok (.iconst 4, 1) := by decide +kernel
theorem dX3_makeRow_32 : decode cX3_makeRow 32 = .ok (.ishr, 1) := by decide +kernel
theorem dX3_makeRow_33 : decode cX3_makeRow 33 = .ok (.istore 4, 2) := by decide +kernel
theorem dX3_makeRow_35 : decode cX3_makeRow 35 = .ok (.iload_n 3, 1) := by decide +kernel
theorem dX3_makeRow_36 : decode cX3_makeRow 36 = .ok (.bipush 15, 2) := by decide +kernel
theorem dX3_makeRow_38 : decode cX3_makeRow 38 = .ok (.iand, 1) := by decide +kernel
theorem dX3_makeRow_39 : decode cX3_makeRow 39 = .ok (.istore 5, 2) := by decide +kernel
theorem dX3_makeRow_41 : decode cX3_makeRow 41 = .ok (.aload_n 0, 1) := by decide +kernel
theorem dX3_makeRow_42 : decode cX3_makeRow 42 = .ok (.getfield 12, 3) := by decide +kernel
theorem dX3_makeRow_45 : decode cX3_makeRow 45 = .ok (.aload_n 1, 1) := by decide +kernel
theorem dX3_makeRow_46 : decode cX3_makeRow 46 = .ok (.aload_n 2, 1) := by decide +kernel
theorem dX3_makeRow_47 : decode cX3_makeRow 47 = .ok (.iload_n 3, 1) := by decide +kernel
theorem dX3_makeRow_48 : decode cX3_makeRow 48 = .ok (.invokevirtual 49, 3) := by decide +kernel
theorem dX3_makeRow_51 : decode cX3_makeRow 51 = .ok (.aload_n 0, 1) := by decide +kernel
theorem dX3_makeRow_52 : decode cX3_makeRow 52 = .ok (.getfield 18, 3) := by decide +kernel
theorem dX3_makeRow_55 : decode cX3_makeRow 55 = .ok (.iload_n 3, 1) := by decide +kernel
theorem dX3_makeRow_56 : decode cX3_makeRow 56 = .ok (.aload_n 0, 1) := by decide +kernel
theorem dX3_makeRow_57 : decode cX3_makeRow 57 = .ok (.getfield 12, 3) := by decide +kernel
theorem dX3_makeRow_60 : decode cX3_makeRow 60 = .ok (.getfield 52, 3) := by decide +kernel
theorem dX3_makeRow_63 : decode cX3_makeRow 63 = .ok (.iastore, 1) := by decide +kernel
theorem dX3_makeRow_64 : decode cX3_makeRow 64 = .ok (.iconst 0, 1) := by decide +kernel
theorem dX3_makeRow_65 : decode cX3_makeRow 65 = .ok (.istore 6, 2) := by decide +kernel
theorem dX3_makeRow_67 : decode cX3_makeRow 67 = .ok (.iload 6, 2) := by decide +kernel
theorem dX3_makeRow_69 : decode cX3_makeRow 69 = .ok (.aload_n 1, 1) := by decide +kernel
theorem dX3_makeRow_70 : decode cX3_makeRow 70 = .ok (.getfield 54, 3) := by decide +kernel
theorem dX3_makeRow_73 : decode cX3_makeRow 73 = .ok (.if_icmp .ge 84, 3) := by decide +kernel
theorem dX3_makeRow_76 : decode cX3_makeRow 76 = .ok (.aload_n 0, 1) := by decide +kernel
theorem dX3_makeRow_77 : decode cX3_makeRow 77 = .ok (.iload_n 3, 1) := by decide +kernel
theorem dX3_makeRow_78 : decode cX3_makeRow 78 = .ok (.aload_n 1, 1) := by decide +kernel
theorem dX3_makeRow_79 : decode cX3_makeRow 79 = .ok (.getfield 57, 3) := by decide +kernel
theorem dX3_makeRow_82 : decode cX3_makeRow 82 = .ok (.iload 6, 2) := by decide +kernel
theorem dX3_makeRow_84 : decode cX3_makeRow 84 = .ok (.iaload, 1) := by decide +kernel
theorem dX3_makeRow_85 : decode cX3_makeRow 85 = .ok (.invokevirtual 60, 3) := by decide +kernel
theorem dX3_makeRow_88 : decode cX3_makeRow 88 = .ok (.ifCond .eq 63, 3) := by decide +kernel
theorem dX3_makeRow_91 : decode cX3_makeRow 91 = .ok (.aload_n 0, 1) := by decide +kernel
theorem dX3_makeRow_92 : decode cX3_makeRow 92 = .ok (.getfield 22, 3) := by decide +kernel
theorem dX3_makeRow_95 : decode cX3_makeRow 95 = .ok (.iload_n 3, 1) := by decide +kernel
theorem dX3_makeRow_96 : decode cX3_makeRow 96 = .ok (.dup2, 1) := by decide +kernel
theorem dX3_makeRow_97 : decode cX3_makeRow 97 = .ok (.laload, 1) := by decide +kernel
theorem dX3_makeRow_98 : decode cX3_makeRow 98 = .ok (.iload 5, 2) := by decide +kernel
theorem dX3_makeRow_100 : decode cX3_makeRow 100 = .ok (.iload 4, 2) := by decide +kernel
theorem dX3_makeRow_102 : decode cX3_makeRow 102 = .ok (.iconst (-1), 1) := by decide +kernel
theorem dX3_makeRow_103 : decode cX3_makeRow 103 = .ok (.ixor, 1) := by decide +kernel
theorem dX3_makeRow_104 : decode cX3_makeRow 104 = .ok (.iand, 1) := by decide +kernel
theorem dX3_makeRow_105 : decode cX3_makeRow 105 = .ok (.aload_n 1, 1) := by decide +kernel
theorem dX3_makeRow_106 : decode cX3_makeRow 106 = .ok (.getfield 64, 3) := by decide +kernel
theorem dX3_makeRow_109 : decode cX3_makeRow 109 = .ok (.iload 6, 2) := by decide +kernel
theorem dX3_makeRow_111 : decode cX3_makeRow 111 = .ok (.iaload, 1) := by decide +kernel
theorem dX3_makeRow_112 : decode cX3_makeRow 112 = .ok (.ishr, 1) := by decide +kernel
theorem dX3_makeRow_113 : decode cX3_makeRow 113 = .ok (.iconst 1, 1) := by decide +kernel
theorem dX3_makeRow_114 : decode cX3_makeRow 114 = .ok (.iand, 1) := by decide +kernel
theorem dX3_makeRow_115 : decode cX3_makeRow 115 = .ok (.i2l, 1) := by decide +kernel
theorem dX3_makeRow_116 : decode cX3_makeRow 116 = .ok (.iload 6, 2) := by decide +kernel
theorem dX3_makeRow_118 : decode cX3_makeRow 118 = .ok (.lshl, 1) := by decide +kernel
theorem dX3_makeRow_119 : decode cX3_makeRow 119 = .ok (.lor, 1) := by decide +kernel
theorem dX3_makeRow_120 : decode cX3_makeRow 120 = .ok (.lastore, 1) := by decide +kernel
theorem dX3_makeRow_121 : decode cX3_makeRow 121 = .ok (.aload_n 0, 1) := by decide +kernel
theorem dX3_makeRow_122 : decode cX3_makeRow 122 = .ok (.getfield 26, 3) := by decide +kernel
theorem dX3_makeRow_125 : decode cX3_makeRow 125 = .ok (.iload_n 3, 1) := by decide +kernel
theorem dX3_makeRow_126 : decode cX3_makeRow 126 = .ok (.dup2, 1) := by decide +kernel
theorem dX3_makeRow_127 : decode cX3_makeRow 127 = .ok (.laload, 1) := by decide +kernel
theorem dX3_makeRow_128 : decode cX3_makeRow 128 = .ok (.iload 4, 2) := by decide +kernel
theorem dX3_makeRow_130 : decode cX3_makeRow 130 = .ok (.iload 5, 2) := by decide +kernel
theorem dX3_makeRow_132 : decode cX3_makeRow 132 = .ok (.iconst (-1), 1) := by decide +kernel
theorem dX3_makeRow_133 : decode cX3_makeRow 133 = .ok (.ixor, 1) := by decide +kernel
theorem dX3_makeRow_134 : decode cX3_makeRow 134 = .ok (.iand, 1) := by decide +kernel
theorem dX3_makeRow_135 : decode cX3_makeRow 135 = .ok (.aload_n 1, 1) := by decide +kernel
theorem dX3_makeRow_136 : decode cX3_makeRow 136 = .ok (.getfield 64, 3) := by decide +kernel
theorem dX3_makeRow_139 : decode cX3_makeRow 139 = .ok (.iload 6, 2) := by decide +kernel
theorem dX3_makeRow_141 : decode cX3_makeRow 141 = .ok (.iaload, 1) := by decide +kernel
theorem dX3_makeRow_142 : decode cX3_makeRow 142 = .ok (.ishr, 1) := by decide +kernel
theorem dX3_makeRow_143 : decode cX3_makeRow 143 = .ok (.iconst 1, 1) := by decide +kernel
theorem dX3_makeRow_144 : decode cX3_makeRow 144 = .ok (.iand, 1) := by decide +kernel
theorem dX3_makeRow_145 : decode cX3_makeRow 145 = .ok (.i2l, 1) := by decide +kernel
theorem dX3_makeRow_146 : decode cX3_makeRow 146 = .ok (.iload 6, 2) := by decide +kernel
theorem dX3_makeRow_148 : decode cX3_makeRow 148 = .ok (.lshl, 1) := by decide +kernel
theorem dX3_makeRow_149 : decode cX3_makeRow 149 = .ok (.lor, 1) := by decide +kernel
theorem dX3_makeRow_150 : decode cX3_makeRow 150 = .ok (.lastore, 1) := by decide +kernel
theorem dX3_makeRow_151 : decode cX3_makeRow 151 = .ok (.iinc 6 1, 3) := by decide +kernel
theorem dX3_makeRow_154 : decode cX3_makeRow 154 = .ok (.goto (-87), 3) := by decide +kernel
theorem dX3_makeRow_157 : decode cX3_makeRow 157 = .ok (.iload 4, 2) := by decide +kernel
theorem dX3_makeRow_159 : decode cX3_makeRow 159 = .ok (.iload 5, 2) := by decide +kernel
theorem dX3_makeRow_161 : decode cX3_makeRow 161 = .ok (.if_icmp .ne 15, 3) := by decide +kernel
theorem dX3_makeRow_164 : decode cX3_makeRow 164 = .ok (.aload_n 0, 1) := by decide +kernel
theorem dX3_makeRow_165 : decode cX3_makeRow 165 = .ok (.getfield 29, 3) := by decide +kernel
theorem dX3_makeRow_168 : decode cX3_makeRow 168 = .ok (.iload 4, 2) := by decide +kernel
theorem dX3_makeRow_170 : decode cX3_makeRow 170 = .ok (.aload_n 0, 1) := by decide +kernel
theorem dX3_makeRow_171 : decode cX3_makeRow 171 = .ok (.aload_n 1, 1) := by decide +kernel
theorem dX3_makeRow_172 : decode cX3_makeRow 172 = .ok (.invokevirtual 67, 3) := by decide +kernel
theorem dX3_makeRow_175 : decode cX3_makeRow 175 = .ok (.iastore, 1) := by decide +kernel
theorem dX3_makeRow_176 : decode cX3_makeRow 176 = .ok (.return_, 1) := by decide +kernel
theorem dX3_nextPattern_0 : decode cX3_nextPattern 0 = .ok (.iconst 0, 1) := by decide +kernel
theorem dX3_nextPattern_1 : decode cX3_nextPattern 1 = .ok (.istore_n 2, 1) := by decide +kernel
theorem dX3_nextPattern_2 : decode cX3_nextPattern 2 = .ok (.iconst 0, 1) := by decide +kernel
theorem dX3_nextPattern_3 : decode cX3_nextPattern 3 = .ok (.istore_n 3, 1) := by decide +kernel
theorem dX3_nextPattern_4 : decode cX3_nextPattern 4 = .ok (.iload_n 3, 1) := by decide +kernel
theorem dX3_nextPattern_5 : decode cX3_nextPattern 5 = .ok (.aload_n 1, 1) := by decide +kernel
theorem dX3_nextPattern_6 : decode cX3_nextPattern 6 = .ok (.getfield 71, 3) := by decide +kernel
theorem dX3_nextPattern_9 : decode cX3_nextPattern 9 = .ok (.if_icmp .ge 28, 3) := by decide +kernel
theorem dX3_nextPattern_12 : decode cX3_nextPattern 12 = .ok (.iload_n 2, 1) := by decide +kernel
theorem dX3_nextPattern_13 : decode cX3_nextPattern 13 = .ok (.aload_n 0, 1) := by decide +kernel
theorem dX3_nextPattern_14 : decode cX3_nextPattern 14 = .ok (.getfield 12, 3) := by decide +kernel
theorem dX3_nextPattern_17 : decode cX3_nextPattern 17 = .ok (.getfield 74, 3) := by decide +kernel
theorem dX3_nextPattern_20 : decode cX3_nextPattern 20 = .ok (.aload_n 1, 1) := by decide +kernel
theorem dX3_nextPattern_21 : decode cX3_nextPattern 21 = .ok (.getfield 77, 3) := by decide +kernel
theorem dX3_nextPattern_24 : decode cX3_nextPattern 24 = .ok (.iload_n 3, 1) := by decide +kernel
theorem dX3_nextPattern_25 : decode cX3_nextPattern 25 = .ok (.iaload, 1) := by decide +kernel
theorem dX3_nextPattern_26 : decode cX3_nextPattern 26 = .ok (.iaload, 1) := by decide +kernel
theorem dX3_nextPattern_27 : decode cX3_nextPattern 27 = .ok (.iload_n 3, 1) := by decide +kernel
theorem dX3_nextPattern_28 : decode cX3_nextPattern 28 = .ok (.ishl, 1) := by decide +kernel
theorem dX3_nextPattern_29 : decode cX3_nextPattern 29 = .ok (.ior, 1) := by decide +kernel
theorem dX3_nextPattern_30 : decode cX3_nextPattern 30 = .ok (.istore_n 2, 1) := by decide +kernel
theorem dX3_nextPattern_31 : decode cX3_nextPattern 31 = .ok (.iinc 3 1, 3) := by decide +kernel
theorem dX3_nextPattern_34 : decode cX3_nextPattern 34 = .ok (.goto (-30), 3) := by decide +kernel
theorem dX3_nextPattern_37 : decode cX3_nextPattern 37 = .ok (.iload_n 2, 1) := by decide +kernel
theorem dX3_nextPattern_38 : decode cX3_nextPattern 38 = .ok (.ireturn, 1) := by decide +kernel
theorem dX3_goesOver_0 : decode cX3_goesOver 0 = .ok (.iload_n 0, 1) := by decide +kernel
theorem dX3_goesOver_1 : decode cX3_goesOver 1 = .ok (.iconst 4, 1) := by decide +kernel
theorem dX3_goesOver_2 : decode cX3_goesOver 2 = .ok (.iload_n 1, 1) := by decide +kernel
theorem dX3_goesOver_3 : decode cX3_goesOver 3 = .ok (.iadd, 1) := by decide +kernel
theorem dX3_goesOver_4 : decode cX3_goesOver 4 = .ok (.ishr, 1) := by decide +kernel
theorem dX3_goesOver_5 : decode cX3_goesOver 5 = .ok (.iconst 1, 1) := by decide +kernel
theorem dX3_goesOver_6 : decode cX3_goesOver 6 = .ok (.iand, 1) := by decide +kernel
theorem dX3_goesOver_7 : decode cX3_goesOver 7 = .ok (.iload_n 2, 1) := by decide +kernel
theorem dX3_goesOver_8 : decode cX3_goesOver 8 = .ok (.if_icmp .eq 16, 3) := by decide +kernel
theorem dX3_goesOver_11 : decode cX3_goesOver 11 = .ok (.iload_n 0, 1) := by decide +kernel
theorem dX3_goesOver_12 : decode cX3_goesOver 12 = .ok (.iload_n 1, 1) := by decide +kernel
theorem dX3_goesOver_13 : decode cX3_goesOver 13 = .ok (.ishr, 1) := by decide +kernel
theorem dX3_goesOver_14 : decode cX3_goesOver 14 = .ok (.iconst 1, 1) := by decide +kernel
theorem dX3_goesOver_15 : decode cX3_goesOver 15 = .ok (.iand, 1) := by decide +kernel
theorem dX3_goesOver_16 : decode cX3_goesOver 16 = .ok (.iload_n 2, 1) := by decide +kernel
theorem dX3_goesOver_17 : decode cX3_goesOver 17 = .ok (.if_icmp .ne 7, 3) := by decide +kernel
theorem dX3_goesOver_20 : decode cX3_goesOver 20 = .ok (.iconst 1, 1) := by decide +kernel
theorem dX3_goesOver_21 : decode cX3_goesOver 21 = .ok (.goto 4, 3) := by decide +kernel
theorem dX3_goesOver_24 : decode cX3_goesOver 24 = .ok (.iconst 0, 1) := by decide +kernel
theorem dX3_goesOver_25 : decode cX3_goesOver 25 = .ok (.ireturn, 1) := by decide +kernel
theorem dX3_holds_0 : decode cX3_holds 0 = .ok (.iload_n 2, 1) := by decide +kernel
theorem dX3_holds_1 : decode cX3_holds 1 = .ok (.aload_n 0, 1) := by decide +kernel
theorem dX3_holds_2 : decode cX3_holds 2 = .ok (.getfield 18, 3) := by decide +kernel
theorem dX3_holds_5 : decode cX3_holds 5 = .ok (.iload_n 1, 1) := by decide +kernel
theorem dX3_holds_6 : decode cX3_holds 6 = .ok (.iaload, 1) := by decide +kernel
theorem dX3_holds_7 : decode cX3_holds 7 = .ok (.iconst (-1), 1) := by decide +kernel
theorem dX3_holds_8 : decode cX3_holds 8 = .ok (.ixor, 1) := by decide +kernel
theorem dX3_holds_9 : decode cX3_holds 9 = .ok (.iand, 1) := by decide +kernel
theorem dX3_holds_10 : decode cX3_holds 10 = .ok (.ifCond .ne 7, 3) := by decide +kernel
theorem dX3_holds_13 : decode cX3_holds 13 = .ok (.iconst 1, 1) := by decide +kernel
theorem dX3_holds_14 : decode cX3_holds 14 = .ok (.goto 4, 3) := by decide +kernel
theorem dX3_holds_17 : decode cX3_holds 17 = .ok (.iconst 0, 1) := by decide +kernel
theorem dX3_holds_18 : decode cX3_holds 18 = .ok (.ireturn, 1) := by decide +kernel
theorem dX3_provesPath_0 : decode cX3_provesPath 0 = .ok (.iload_n 3, 1) := by decide +kernel
theorem dX3_provesPath_1 : decode cX3_provesPath 1 = .ok (.iconst 1, 1) := by decide +kernel
theorem dX3_provesPath_2 : decode cX3_provesPath 2 = .ok (.if_icmp .ne 12, 3) := by decide +kernel
theorem dX3_provesPath_5 : decode cX3_provesPath 5 = .ok (.aload_n 0, 1) := by decide +kernel
theorem dX3_provesPath_6 : decode cX3_provesPath 6 = .ok (.getfield 22, 3) := by decide +kernel
theorem dX3_provesPath_9 : decode cX3_provesPath 9 = .ok (.iload_n 1, 1) := by decide +kernel
theorem dX3_provesPath_10 : decode cX3_provesPath 10 = .ok (.laload, 1) := by decide +kernel
theorem dX3_provesPath_11 : decode cX3_provesPath 11 = .ok (.goto 9, 3) := by decide +kernel
theorem dX3_provesPath_14 : decode cX3_provesPath 14 = .ok (.aload_n 0, 1) := by decide +kernel
theorem dX3_provesPath_15 : decode cX3_provesPath 15 = .ok (.getfield 26, 3) := by decide +kernel
theorem dX3_provesPath_18 : decode cX3_provesPath 18 = .ok (.iload_n 1, 1) := by decide +kernel
theorem dX3_provesPath_19 : decode cX3_provesPath 19 = .ok (.laload, 1) := by decide +kernel
theorem dX3_provesPath_20 : decode cX3_provesPath 20 = .ok (.lstore 4, 2) := by decide +kernel
theorem dX3_provesPath_22 : decode cX3_provesPath 22 = .ok (.lload 4, 2) := by decide +kernel
theorem dX3_provesPath_24 : decode cX3_provesPath 24 = .ok (.iload_n 2, 1) := by decide +kernel
theorem dX3_provesPath_25 : decode cX3_provesPath 25 = .ok (.lshr, 1) := by decide +kernel
theorem dX3_provesPath_26 : decode cX3_provesPath 26 = .ok (.lconst 1, 1) := by decide +kernel
theorem dX3_provesPath_27 : decode cX3_provesPath 27 = .ok (.land, 1) := by decide +kernel
theorem dX3_provesPath_28 : decode cX3_provesPath 28 = .ok (.lconst 1, 1) := by decide +kernel
theorem dX3_provesPath_29 : decode cX3_provesPath 29 = .ok (.lcmp, 1) := by decide +kernel
theorem dX3_provesPath_30 : decode cX3_provesPath 30 = .ok (.ifCond .ne 7, 3) := by decide +kernel
theorem dX3_provesPath_33 : decode cX3_provesPath 33 = .ok (.iconst 1, 1) := by decide +kernel
theorem dX3_provesPath_34 : decode cX3_provesPath 34 = .ok (.goto 4, 3) := by decide +kernel
theorem dX3_provesPath_37 : decode cX3_provesPath 37 = .ok (.iconst 0, 1) := by decide +kernel
theorem dX3_provesPath_38 : decode cX3_provesPath 38 = .ok (.ireturn, 1) := by decide +kernel
set_option maxRecDepth 20000 in
theorem ggX3_canProve_X3_provesPath : GoodIn wsX3_canProve wsX3_provesPath := goodIn_r _ [5, 6, 7, 8, 9, 10, 11, 12, 13] (by decide +kernel) (by decide +kernel)
set_option maxRecDepth 20000 in
theorem gX3_canProve_X3_provesPath : GoodIn wsX3_canProve (wsV RX3 80 RX3 yX3_provesPath wsX3_provesPath) := goodIn_app (goodIn_of _ (by decide +kernel)) ggX3_canProve_X3_provesPath
theorem dX3_canProve_0 : decode cX3_canProve 0 = .ok (.iconst 0, 1) := by decide +kernel
theorem dX3_canProve_1 : decode cX3_canProve 1 = .ok (.istore_n 3, 1) := by decide +kernel
theorem dX3_canProve_2 : decode cX3_canProve 2 = .ok (.iload_n 3, 1) := by decide +kernel
theorem dX3_canProve_3 : decode cX3_canProve 3 = .ok (.sipush 256, 3) := by decide +kernel
theorem dX3_canProve_6 : decode cX3_canProve 6 = .ok (.if_icmp .ge 21, 3) := by decide +kernel
theorem dX3_canProve_9 : decode cX3_canProve 9 = .ok (.aload_n 0, 1) := by decide +kernel
theorem dX3_canProve_10 : decode cX3_canProve 10 = .ok (.iload_n 3, 1) := by decide +kernel
theorem dX3_canProve_11 : decode cX3_canProve 11 = .ok (.iload_n 1, 1) := by decide +kernel
theorem dX3_canProve_12 : decode cX3_canProve 12 = .ok (.iload_n 2, 1) := by decide +kernel
theorem dX3_canProve_13 : decode cX3_canProve 13 = .ok (.invokevirtual 80, 3) := by decide +kernel
theorem dX3_canProve_16 : decode cX3_canProve 16 = .ok (.ifCond .eq 5, 3) := by decide +kernel
theorem dX3_canProve_19 : decode cX3_canProve 19 = .ok (.iconst 1, 1) := by decide +kernel
theorem dX3_canProve_20 : decode cX3_canProve 20 = .ok (.ireturn, 1) := by decide +kernel
theorem dX3_canProve_21 : decode cX3_canProve 21 = .ok (.iinc 3 1, 3) := by decide +kernel
theorem dX3_canProve_24 : decode cX3_canProve 24 = .ok (.goto (-22), 3) := by decide +kernel
theorem dX3_canProve_27 : decode cX3_canProve 27 = .ok (.iconst 0, 1) := by decide +kernel
theorem dX3_canProve_28 : decode cX3_canProve 28 = .ok (.ireturn, 1) := by decide +kernel
set_option maxRecDepth 20000 in
theorem ggX3_provenPaths_J13_bitCount_95d88 : GoodIn wsX3_provenPaths wsJ13_bitCount_95d88 := goodIn_r _ [6, 7, 8, 9] (by decide +kernel) (by decide +kernel)
set_option maxRecDepth 20000 in
theorem gX3_provenPaths_J13_bitCount_95d88 : GoodIn wsX3_provenPaths (va_wsS RX3 84 yJ13_bitCount_95d88 wsJ13_bitCount_95d88) := goodIn_app (goodIn_of _ (by decide +kernel)) ggX3_provenPaths_J13_bitCount_95d88
theorem dX3_provenPaths_0 : decode cX3_provenPaths 0 = .ok (.lconst 0, 1) := by decide +kernel
theorem dX3_provenPaths_1 : decode cX3_provenPaths 1 = .ok (.lstore_n 1, 1) := by decide +kernel
theorem dX3_provenPaths_2 : decode cX3_provenPaths 2 = .ok (.lconst 0, 1) := by decide +kernel
theorem dX3_provenPaths_3 : decode cX3_provenPaths 3 = .ok (.lstore_n 3, 1) := by decide +kernel
theorem dX3_provenPaths_4 : decode cX3_provenPaths 4 = .ok (.iconst 0, 1) := by decide +kernel
theorem dX3_provenPaths_5 : decode cX3_provenPaths 5 = .ok (.istore 5, 2) := by decide +kernel
theorem dX3_provenPaths_7 : decode cX3_provenPaths 7 = .ok (.iload 5, 2) := by decide +kernel
theorem dX3_provenPaths_9 : decode cX3_provenPaths 9 = .ok (.sipush 256, 3) := by decide +kernel
theorem dX3_provenPaths_12 : decode cX3_provenPaths 12 = .ok (.if_icmp .ge 29, 3) := by decide +kernel
theorem dX3_provenPaths_15 : decode cX3_provenPaths 15 = .ok (.lload_n 1, 1) := by decide +kernel
theorem dX3_provenPaths_16 : decode cX3_provenPaths 16 = .ok (.aload_n 0, 1) := by decide +kernel
theorem dX3_provenPaths_17 : decode cX3_provenPaths 17 = .ok (.getfield 22, 3) := by decide +kernel
theorem dX3_provenPaths_20 : decode cX3_provenPaths 20 = .ok (.iload 5, 2) := by decide +kernel
theorem dX3_provenPaths_22 : decode cX3_provenPaths 22 = .ok (.laload, 1) := by decide +kernel
theorem dX3_provenPaths_23 : decode cX3_provenPaths 23 = .ok (.lor, 1) := by decide +kernel
theorem dX3_provenPaths_24 : decode cX3_provenPaths 24 = .ok (.lstore_n 1, 1) := by decide +kernel
theorem dX3_provenPaths_25 : decode cX3_provenPaths 25 = .ok (.lload_n 3, 1) := by decide +kernel
theorem dX3_provenPaths_26 : decode cX3_provenPaths 26 = .ok (.aload_n 0, 1) := by decide +kernel
theorem dX3_provenPaths_27 : decode cX3_provenPaths 27 = .ok (.getfield 26, 3) := by decide +kernel
theorem dX3_provenPaths_30 : decode cX3_provenPaths 30 = .ok (.iload 5, 2) := by decide +kernel
theorem dX3_provenPaths_32 : decode cX3_provenPaths 32 = .ok (.laload, 1) := by decide +kernel
theorem dX3_provenPaths_33 : decode cX3_provenPaths 33 = .ok (.lor, 1) := by decide +kernel
theorem dX3_provenPaths_34 : decode cX3_provenPaths 34 = .ok (.lstore_n 3, 1) := by decide +kernel
theorem dX3_provenPaths_35 : decode cX3_provenPaths 35 = .ok (.iinc 5 1, 3) := by decide +kernel
theorem dX3_provenPaths_38 : decode cX3_provenPaths 38 = .ok (.goto (-31), 3) := by decide +kernel
theorem dX3_provenPaths_41 : decode cX3_provenPaths 41 = .ok (.lload_n 1, 1) := by decide +kernel
theorem dX3_provenPaths_42 : decode cX3_provenPaths 42 = .ok (.invokestatic 84, 3) := by decide +kernel
theorem dX3_provenPaths_45 : decode cX3_provenPaths 45 = .ok (.lload_n 3, 1) := by decide +kernel
theorem dX3_provenPaths_46 : decode cX3_provenPaths 46 = .ok (.invokestatic 84, 3) := by decide +kernel
theorem dX3_provenPaths_49 : decode cX3_provenPaths 49 = .ok (.iadd, 1) := by decide +kernel
theorem dX3_provenPaths_50 : decode cX3_provenPaths 50 = .ok (.ireturn, 1) := by decide +kernel
set_option maxRecDepth 20000 in
theorem ggX3_isLaunched_X2_allBits : GoodIn wsX3_isLaunched wsX2_allBits := goodIn_r _ [6, 7, 14, 15, 16, 17, 18, 19, 20, 21, 22, 23, 24] (by decide +kernel) (by decide +kernel)
set_option maxRecDepth 20000 in
theorem gX3_isLaunched_X2_allBits : GoodIn wsX3_isLaunched (wsV RX3 90 RX2 yX2_allBits wsX2_allBits) := goodIn_app (goodIn_of _ (by decide +kernel)) ggX3_isLaunched_X2_allBits
theorem dX3_isLaunched_0 : decode cX3_isLaunched 0 = .ok (.iload_n 3, 1) := by decide +kernel
theorem dX3_isLaunched_1 : decode cX3_isLaunched 1 = .ok (.iconst 4, 1) := by decide +kernel
theorem dX3_isLaunched_2 : decode cX3_isLaunched 2 = .ok (.ishr, 1) := by decide +kernel
theorem dX3_isLaunched_3 : decode cX3_isLaunched 3 = .ok (.istore 4, 2) := by decide +kernel
theorem dX3_isLaunched_5 : decode cX3_isLaunched 5 = .ok (.iload_n 3, 1) := by decide +kernel
theorem dX3_isLaunched_6 : decode cX3_isLaunched 6 = .ok (.bipush 15, 2) := by decide +kernel
theorem dX3_isLaunched_8 : decode cX3_isLaunched 8 = .ok (.iand, 1) := by decide +kernel
theorem dX3_isLaunched_9 : decode cX3_isLaunched 9 = .ok (.istore 5, 2) := by decide +kernel
theorem dX3_isLaunched_11 : decode cX3_isLaunched 11 = .ok (.iload_n 2, 1) := by decide +kernel
theorem dX3_isLaunched_12 : decode cX3_isLaunched 12 = .ok (.lookupswitch 53 #[(0, 28), (1, 30)], 28) := by decide +kernel
theorem dX3_isLaunched_40 : decode cX3_isLaunched 40 = .ok (.iconst 1, 1) := by decide +kernel
theorem dX3_isLaunched_41 : decode cX3_isLaunched 41 = .ok (.ireturn, 1) := by decide +kernel
theorem dX3_isLaunched_42 : decode cX3_isLaunched 42 = .ok (.iload 5, 2) := by decide +kernel
theorem dX3_isLaunched_44 : decode cX3_isLaunched 44 = .ok (.bipush (-2), 2) := by decide +kernel
theorem dX3_isLaunched_46 : decode cX3_isLaunched 46 = .ok (.iand, 1) := by decide +kernel
theorem dX3_isLaunched_47 : decode cX3_isLaunched 47 = .ok (.iload 4, 2) := by decide +kernel
theorem dX3_isLaunched_49 : decode cX3_isLaunched 49 = .ok (.iconst 1, 1) := by decide +kernel
theorem dX3_isLaunched_50 : decode cX3_isLaunched 50 = .ok (.ishl, 1) := by decide +kernel
theorem dX3_isLaunched_51 : decode cX3_isLaunched 51 = .ok (.aload_n 1, 1) := by decide +kernel
theorem dX3_isLaunched_52 : decode cX3_isLaunched 52 = .ok (.invokevirtual 90, 3) := by decide +kernel
theorem dX3_isLaunched_55 : decode cX3_isLaunched 55 = .ok (.iand, 1) := by decide +kernel
theorem dX3_isLaunched_56 : decode cX3_isLaunched 56 = .ok (.if_icmp .ne 7, 3) := by decide +kernel
theorem dX3_isLaunched_59 : decode cX3_isLaunched 59 = .ok (.iconst 1, 1) := by decide +kernel
theorem dX3_isLaunched_60 : decode cX3_isLaunched 60 = .ok (.goto 4, 3) := by decide +kernel
theorem dX3_isLaunched_63 : decode cX3_isLaunched 63 = .ok (.iconst 0, 1) := by decide +kernel
theorem dX3_isLaunched_64 : decode cX3_isLaunched 64 = .ok (.ireturn, 1) := by decide +kernel
theorem dX3_isLaunched_65 : decode cX3_isLaunched 65 = .ok (.aload_n 0, 1) := by decide +kernel
theorem dX3_isLaunched_66 : decode cX3_isLaunched 66 = .ok (.getfield 29, 3) := by decide +kernel
theorem dX3_isLaunched_69 : decode cX3_isLaunched 69 = .ok (.iload 4, 2) := by decide +kernel
theorem dX3_isLaunched_71 : decode cX3_isLaunched 71 = .ok (.iaload, 1) := by decide +kernel
theorem dX3_isLaunched_72 : decode cX3_isLaunched 72 = .ok (.iload 5, 2) := by decide +kernel
theorem dX3_isLaunched_74 : decode cX3_isLaunched 74 = .ok (.if_icmp .ne 7, 3) := by decide +kernel
theorem dX3_isLaunched_77 : decode cX3_isLaunched 77 = .ok (.iconst 1, 1) := by decide +kernel
theorem dX3_isLaunched_78 : decode cX3_isLaunched 78 = .ok (.goto 4, 3) := by decide +kernel
theorem dX3_isLaunched_81 : decode cX3_isLaunched 81 = .ok (.iconst 0, 1) := by decide +kernel
theorem dX3_isLaunched_82 : decode cX3_isLaunched 82 = .ok (.ireturn, 1) := by decide +kernel
set_option maxRecDepth 20000 in
theorem ggX3_deadBeginnings_X3_gatesAlive : GoodIn wsX3_deadBeginnings wsX3_gatesAlive := goodIn_r _ [7, 2, 8, 9, 10, 6, 11, 12, 13, 14, 15, 16, 17, 18, 19, 20, 21, 22, 23, 31, 32, 33, 34, 35, 36, 37, 38, 39, 40, 41, 42, 43, 44, 45, 46, 47] (by decide +kernel) (by decide +kernel)
set_option maxRecDepth 20000 in
theorem gX3_deadBeginnings_X3_gatesAlive : GoodIn wsX3_deadBeginnings (wsV RX3 94 RX3 yX3_gatesAlive wsX3_gatesAlive) := goodIn_app (goodIn_of _ (by decide +kernel)) ggX3_deadBeginnings_X3_gatesAlive
set_option maxRecDepth 20000 in
theorem ggX3_deadBeginnings_X2_isSharedBefore : GoodIn wsX3_deadBeginnings wsX2_isSharedBefore := goodIn_r _ [27, 28, 29, 30, 13, 14, 15, 16, 17, 18, 31, 32, 33, 34, 35, 36, 37, 38, 39, 40, 41] (by decide +kernel) (by decide +kernel)
set_option maxRecDepth 20000 in
theorem gX3_deadBeginnings_X2_isSharedBefore : GoodIn wsX3_deadBeginnings (wsV RX3 101 RX2 yX2_isSharedBefore wsX2_isSharedBefore) := goodIn_app (goodIn_of _ (by decide +kernel)) ggX3_deadBeginnings_X2_isSharedBefore
theorem dX3_deadBeginnings_0 : decode cX3_deadBeginnings 0 = .ok (.iconst 0, 1) := by decide +kernel
theorem dX3_deadBeginnings_1 : decode cX3_deadBeginnings 1 = .ok (.istore_n 2, 1) := by decide +kernel
theorem dX3_deadBeginnings_2 : decode cX3_deadBeginnings 2 = .ok (.iconst 0, 1) := by decide +kernel
theorem dX3_deadBeginnings_3 : decode cX3_deadBeginnings 3 = .ok (.istore_n 3, 1) := by decide +kernel
theorem dX3_deadBeginnings_4 : decode cX3_deadBeginnings 4 = .ok (.iload_n 3, 1) := by decide +kernel
theorem dX3_deadBeginnings_5 : decode cX3_deadBeginnings 5 = .ok (.aload_n 1, 1) := by decide +kernel
theorem dX3_deadBeginnings_6 : decode cX3_deadBeginnings 6 = .ok (.getfield 54, 3) := by decide +kernel
theorem dX3_deadBeginnings_9 : decode cX3_deadBeginnings 9 = .ok (.if_icmp .ge 60, 3) := by decide +kernel
theorem dX3_deadBeginnings_12 : decode cX3_deadBeginnings 12 = .ok (.iconst 0, 1) := by decide +kernel
theorem dX3_deadBeginnings_13 : decode cX3_deadBeginnings 13 = .ok (.istore 4, 2) := by decide +kernel
theorem dX3_deadBeginnings_15 : decode cX3_deadBeginnings 15 = .ok (.iload 4, 2) := by decide +kernel
theorem dX3_deadBeginnings_17 : decode cX3_deadBeginnings 17 = .ok (.iconst 1, 1) := by decide +kernel
theorem dX3_deadBeginnings_18 : decode cX3_deadBeginnings 18 = .ok (.if_icmp .gt 45, 3) := by decide +kernel
theorem dX3_deadBeginnings_21 : decode cX3_deadBeginnings 21 = .ok (.aload_n 0, 1) := by decide +kernel
theorem dX3_deadBeginnings_22 : decode cX3_deadBeginnings 22 = .ok (.aload_n 1, 1) := by decide +kernel
theorem dX3_deadBeginnings_23 : decode cX3_deadBeginnings 23 = .ok (.iload_n 3, 1) := by decide +kernel
theorem dX3_deadBeginnings_24 : decode cX3_deadBeginnings 24 = .ok (.iload 4, 2) := by decide +kernel
theorem dX3_deadBeginnings_26 : decode cX3_deadBeginnings 26 = .ok (.invokevirtual 94, 3) := by decide +kernel
theorem dX3_deadBeginnings_29 : decode cX3_deadBeginnings 29 = .ok (.istore 5, 2) := by decide +kernel
theorem dX3_deadBeginnings_31 : decode cX3_deadBeginnings 31 = .ok (.iload 5, 2) := by decide +kernel
theorem dX3_deadBeginnings_33 : decode cX3_deadBeginnings 33 = .ok (.aload_n 1, 1) := by decide +kernel
theorem dX3_deadBeginnings_34 : decode cX3_deadBeginnings 34 = .ok (.getfield 98, 3) := by decide +kernel
theorem dX3_deadBeginnings_37 : decode cX3_deadBeginnings 37 = .ok (.iload_n 3, 1) := by decide +kernel
theorem dX3_deadBeginnings_38 : decode cX3_deadBeginnings 38 = .ok (.iaload, 1) := by decide +kernel
theorem dX3_deadBeginnings_39 : decode cX3_deadBeginnings 39 = .ok (.if_icmp .ge 18, 3) := by decide +kernel
theorem dX3_deadBeginnings_42 : decode cX3_deadBeginnings 42 = .ok (.aload_n 1, 1) := by decide +kernel
theorem dX3_deadBeginnings_43 : decode cX3_deadBeginnings 43 = .ok (.iload_n 3, 1) := by decide +kernel
theorem dX3_deadBeginnings_44 : decode cX3_deadBeginnings 44 = .ok (.iload 5, 2) := by decide +kernel
theorem dX3_deadBeginnings_46 : decode cX3_deadBeginnings 46 = .ok (.iconst 1, 1) := by decide +kernel
theorem dX3_deadBeginnings_47 : decode cX3_deadBeginnings 47 = .ok (.iadd, 1) := by decide +kernel
theorem dX3_deadBeginnings_48 : decode cX3_deadBeginnings 48 = .ok (.invokevirtual 101, 3) := by decide +kernel
theorem dX3_deadBeginnings_51 : decode cX3_deadBeginnings 51 = .ok (.ifCond .ne 6, 3) := by decide +kernel
theorem dX3_deadBeginnings_54 : decode cX3_deadBeginnings 54 = .ok (.iinc 2 1, 3) := by decide +kernel
theorem dX3_deadBeginnings_57 : decode cX3_deadBeginnings 57 = .ok (.iinc 4 1, 3) := by decide +kernel
theorem dX3_deadBeginnings_60 : decode cX3_deadBeginnings 60 = .ok (.goto (-45), 3) := by decide +kernel
theorem dX3_deadBeginnings_63 : decode cX3_deadBeginnings 63 = .ok (.iinc 3 1, 3) := by decide +kernel
theorem dX3_deadBeginnings_66 : decode cX3_deadBeginnings 66 = .ok (.goto (-62), 3) := by decide +kernel
theorem dX3_deadBeginnings_69 : decode cX3_deadBeginnings 69 = .ok (.iload_n 2, 1) := by decide +kernel
theorem dX3_deadBeginnings_70 : decode cX3_deadBeginnings 70 = .ok (.ireturn, 1) := by decide +kernel
set_option maxRecDepth 20000 in
theorem ggX3_gatesAlive_X3_goesOver : GoodIn wsX3_gatesAlive wsX3_goesOver := goodIn_r _ [6] (by decide +kernel) (by decide +kernel)
set_option maxRecDepth 20000 in
theorem gX3_gatesAlive_X3_goesOver : GoodIn wsX3_gatesAlive (va_wsS RX3 104 yX3_goesOver wsX3_goesOver) := goodIn_app (goodIn_of _ (by decide +kernel)) ggX3_gatesAlive_X3_goesOver
set_option maxRecDepth 20000 in
theorem ggX3_gatesAlive_X2_beginning : GoodIn wsX3_gatesAlive wsX2_beginning := goodIn_r _ [11, 12, 13, 19, 20, 21, 22, 23, 24, 25, 26, 27, 28, 29] (by decide +kernel) (by decide +kernel)
set_option maxRecDepth 20000 in
theorem gX3_gatesAlive_X2_beginning : GoodIn wsX3_gatesAlive (wsV RX3 107 RX2 yX2_beginning wsX2_beginning) := goodIn_app (goodIn_of _ (by decide +kernel)) ggX3_gatesAlive_X2_beginning
set_option maxRecDepth 20000 in
theorem ggX3_gatesAlive_X3_holds : GoodIn wsX3_gatesAlive wsX3_holds := goodIn_r _ [17, 18, 30, 31, 32, 33, 34, 35] (by decide +kernel) (by decide +kernel)
set_option maxRecDepth 20000 in
theorem gX3_gatesAlive_X3_holds : GoodIn wsX3_gatesAlive (wsV RX3 60 RX3 yX3_holds wsX3_holds) := goodIn_app (goodIn_of _ (by decide +kernel)) ggX3_gatesAlive_X3_holds
theorem dX3_gatesAlive_0 : decode cX3_gatesAlive 0 = .ok (.iconst 0, 1) := by decide +kernel
theorem dX3_gatesAlive_1 : decode cX3_gatesAlive 1 = .ok (.istore 4, 2) := by decide +kernel
theorem dX3_gatesAlive_3 : decode cX3_gatesAlive 3 = .ok (.aload_n 1, 1) := by decide +kernel
theorem dX3_gatesAlive_4 : decode cX3_gatesAlive 4 = .ok (.getfield 98, 3) := by decide +kernel
theorem dX3_gatesAlive_7 : decode cX3_gatesAlive 7 = .ok (.iload_n 2, 1) := by decide +kernel
theorem dX3_gatesAlive_8 : decode cX3_gatesAlive 8 = .ok (.iaload, 1) := by decide +kernel
theorem dX3_gatesAlive_9 : decode cX3_gatesAlive 9 = .ok (.istore 5, 2) := by decide +kernel
theorem dX3_gatesAlive_11 : decode cX3_gatesAlive 11 = .ok (.iconst 0, 1) := by decide +kernel
theorem dX3_gatesAlive_12 : decode cX3_gatesAlive 12 = .ok (.istore 6, 2) := by decide +kernel
theorem dX3_gatesAlive_14 : decode cX3_gatesAlive 14 = .ok (.iload 6, 2) := by decide +kernel
theorem dX3_gatesAlive_16 : decode cX3_gatesAlive 16 = .ok (.sipush 256, 3) := by decide +kernel
theorem dX3_gatesAlive_19 : decode cX3_gatesAlive 19 = .ok (.if_icmp .ge 62, 3) := by decide +kernel
theorem dX3_gatesAlive_22 : decode cX3_gatesAlive 22 = .ok (.iload 4, 2) := by decide +kernel
theorem dX3_gatesAlive_24 : decode cX3_gatesAlive 24 = .ok (.iload 5, 2) := by decide +kernel
theorem dX3_gatesAlive_26 : decode cX3_gatesAlive 26 = .ok (.if_icmp .ge 55, 3) := by decide +kernel
theorem dX3_gatesAlive_29 : decode cX3_gatesAlive 29 = .ok (.iload 6, 2) := by decide +kernel
theorem dX3_gatesAlive_31 : decode cX3_gatesAlive 31 = .ok (.aload_n 1, 1) := by decide +kernel
theorem dX3_gatesAlive_32 : decode cX3_gatesAlive 32 = .ok (.getfield 64, 3) := by decide +kernel
theorem dX3_gatesAlive_35 : decode cX3_gatesAlive 35 = .ok (.iload_n 2, 1) := by decide +kernel
theorem dX3_gatesAlive_36 : decode cX3_gatesAlive 36 = .ok (.iaload, 1) := by decide +kernel
theorem dX3_gatesAlive_37 : decode cX3_gatesAlive 37 = .ok (.iload_n 3, 1) := by decide +kernel
theorem dX3_gatesAlive_38 : decode cX3_gatesAlive 38 = .ok (.invokestatic 104, 3) := by decide +kernel
theorem dX3_gatesAlive_41 : decode cX3_gatesAlive 41 = .ok (.ifCond .eq 34, 3) := by decide +kernel
theorem dX3_gatesAlive_44 : decode cX3_gatesAlive 44 = .ok (.iload 4, 2) := by decide +kernel
theorem dX3_gatesAlive_46 : decode cX3_gatesAlive 46 = .ok (.iload 5, 2) := by decide +kernel
theorem dX3_gatesAlive_48 : decode cX3_gatesAlive 48 = .ok (.if_icmp .ge 27, 3) := by decide +kernel
theorem dX3_gatesAlive_51 : decode cX3_gatesAlive 51 = .ok (.aload_n 0, 1) := by decide +kernel
theorem dX3_gatesAlive_52 : decode cX3_gatesAlive 52 = .ok (.iload 6, 2) := by decide +kernel
theorem dX3_gatesAlive_54 : decode cX3_gatesAlive 54 = .ok (.aload_n 1, 1) := by decide +kernel
theorem dX3_gatesAlive_55 : decode cX3_gatesAlive 55 = .ok (.iload_n 2, 1) := by decide +kernel
theorem dX3_gatesAlive_56 : decode cX3_gatesAlive 56 = .ok (.iload 4, 2) := by decide +kernel
theorem dX3_gatesAlive_58 : decode cX3_gatesAlive 58 = .ok (.iconst 1, 1) := by decide +kernel
theorem dX3_gatesAlive_59 : decode cX3_gatesAlive 59 = .ok (.iadd, 1) := by decide +kernel
theorem dX3_gatesAlive_60 : decode cX3_gatesAlive 60 = .ok (.invokevirtual 107, 3) := by decide +kernel
theorem dX3_gatesAlive_63 : decode cX3_gatesAlive 63 = .ok (.invokevirtual 60, 3) := by decide +kernel
theorem dX3_gatesAlive_66 : decode cX3_gatesAlive 66 = .ok (.ifCond .eq 9, 3) := by decide +kernel
theorem dX3_gatesAlive_69 : decode cX3_gatesAlive 69 = .ok (.iinc 4 1, 3) := by decide +kernel
theorem dX3_gatesAlive_72 : decode cX3_gatesAlive 72 = .ok (.goto (-28), 3) := by decide +kernel
theorem dX3_gatesAlive_75 : decode cX3_gatesAlive 75 = .ok (.iinc 6 1, 3) := by decide +kernel
theorem dX3_gatesAlive_78 : decode cX3_gatesAlive 78 = .ok (.goto (-64), 3) := by decide +kernel
theorem dX3_gatesAlive_81 : decode cX3_gatesAlive 81 = .ok (.iload 4, 2) := by decide +kernel
theorem dX3_gatesAlive_83 : decode cX3_gatesAlive 83 = .ok (.ireturn, 1) := by decide +kernel
set_option maxRecDepth 20000 in
theorem ggX3_pack_X3_fullest : GoodIn wsX3_pack wsX3_fullest := goodIn_r _ [7, 1, 8, 2, 9, 10, 11, 12, 13, 14, 15, 16, 17, 18, 6, 19, 20, 21, 22, 23, 24, 25, 26, 27, 28, 29, 30, 31, 32, 33, 34, 35, 36, 37, 38, 39, 40, 41, 42, 43] (by decide +kernel) (by decide +kernel)
set_option maxRecDepth 20000 in
theorem gX3_pack_X3_fullest : GoodIn wsX3_pack (wsV RX3 111 RX3 yX3_fullest wsX3_fullest) := goodIn_app (goodIn_of _ (by decide +kernel)) ggX3_pack_X3_fullest
theorem dX3_pack_0 : decode cX3_pack 0 = .ok (.lconst 0, 1) := by decide +kernel
theorem dX3_pack_1 : decode cX3_pack 1 = .ok (.lstore 4, 2) := by decide +kernel
theorem dX3_pack_3 : decode cX3_pack 3 = .ok (.lconst 0, 1) := by decide +kernel
theorem dX3_pack_4 : decode cX3_pack 4 = .ok (.lstore 6, 2) := by decide +kernel
theorem dX3_pack_6 : decode cX3_pack 6 = .ok (.iconst 0, 1) := by decide +kernel
theorem dX3_pack_7 : decode cX3_pack 7 = .ok (.istore 8, 2) := by decide +kernel
theorem dX3_pack_9 : decode cX3_pack 9 = .ok (.iload 8, 2) := by decide +kernel
theorem dX3_pack_11 : decode cX3_pack 11 = .ok (.bipush 110, 2) := by decide +kernel
theorem dX3_pack_13 : decode cX3_pack 13 = .ok (.if_icmp .gt 74, 3) := by decide +kernel
theorem dX3_pack_16 : decode cX3_pack 16 = .ok (.aload_n 0, 1) := by decide +kernel
theorem dX3_pack_17 : decode cX3_pack 17 = .ok (.aload_n 1, 1) := by decide +kernel
theorem dX3_pack_18 : decode cX3_pack 18 = .ok (.iload_n 2, 1) := by decide +kernel
theorem dX3_pack_19 : decode cX3_pack 19 = .ok (.lload 4, 2) := by decide +kernel
theorem dX3_pack_21 : decode cX3_pack 21 = .ok (.lload 6, 2) := by decide +kernel
theorem dX3_pack_23 : decode cX3_pack 23 = .ok (.invokevirtual 111, 3) := by decide +kernel
theorem dX3_pack_26 : decode cX3_pack 26 = .ok (.istore 9, 2) := by decide +kernel
theorem dX3_pack_28 : decode cX3_pack 28 = .ok (.iload 9, 2) := by decide +kernel
theorem dX3_pack_30 : decode cX3_pack 30 = .ok (.bipush (-9), 2) := by decide +kernel
theorem dX3_pack_32 : decode cX3_pack 32 = .ok (.if_icmp .ne 16, 3) := by decide +kernel
theorem dX3_pack_35 : decode cX3_pack 35 = .ok (.iload_n 3, 1) := by decide +kernel
theorem dX3_pack_36 : decode cX3_pack 36 = .ok (.iconst (-1), 1) := by decide +kernel
theorem dX3_pack_37 : decode cX3_pack 37 = .ok (.if_icmp .ne 8, 3) := by decide +kernel
theorem dX3_pack_40 : decode cX3_pack 40 = .ok (.iload 8, 2) := by decide +kernel
theorem dX3_pack_42 : decode cX3_pack 42 = .ok (.goto 5, 3) := by decide +kernel
theorem dX3_pack_45 : decode cX3_pack 45 = .ok (.bipush (-9), 2) := by decide +kernel
theorem dX3_pack_47 : decode cX3_pack 47 = .ok (.ireturn, 1) := by decide +kernel
theorem dX3_pack_48 : decode cX3_pack 48 = .ok (.iload 8, 2) := by decide +kernel
theorem dX3_pack_50 : decode cX3_pack 50 = .ok (.iload_n 3, 1) := by decide +kernel
theorem dX3_pack_51 : decode cX3_pack 51 = .ok (.if_icmp .ne 6, 3) := by decide +kernel
theorem dX3_pack_54 : decode cX3_pack 54 = .ok (.iload 9, 2) := by decide +kernel
theorem dX3_pack_56 : decode cX3_pack 56 = .ok (.ireturn, 1) := by decide +kernel
theorem dX3_pack_57 : decode cX3_pack 57 = .ok (.lload 4, 2) := by decide +kernel
theorem dX3_pack_59 : decode cX3_pack 59 = .ok (.aload_n 0, 1) := by decide +kernel
theorem dX3_pack_60 : decode cX3_pack 60 = .ok (.getfield 22, 3) := by decide +kernel
theorem dX3_pack_63 : decode cX3_pack 63 = .ok (.iload 9, 2) := by decide +kernel
theorem dX3_pack_65 : decode cX3_pack 65 = .ok (.laload, 1) := by decide +kernel
theorem dX3_pack_66 : decode cX3_pack 66 = .ok (.lor, 1) := by decide +kernel
theorem dX3_pack_67 : decode cX3_pack 67 = .ok (.lstore 4, 2) := by decide +kernel
theorem dX3_pack_69 : decode cX3_pack 69 = .ok (.lload 6, 2) := by decide +kernel
theorem dX3_pack_71 : decode cX3_pack 71 = .ok (.aload_n 0, 1) := by decide +kernel
theorem dX3_pack_72 : decode cX3_pack 72 = .ok (.getfield 26, 3) := by decide +kernel
theorem dX3_pack_75 : decode cX3_pack 75 = .ok (.iload 9, 2) := by decide +kernel
theorem dX3_pack_77 : decode cX3_pack 77 = .ok (.laload, 1) := by decide +kernel
theorem dX3_pack_78 : decode cX3_pack 78 = .ok (.lor, 1) := by decide +kernel
theorem dX3_pack_79 : decode cX3_pack 79 = .ok (.lstore 6, 2) := by decide +kernel
theorem dX3_pack_81 : decode cX3_pack 81 = .ok (.iinc 8 1, 3) := by decide +kernel
theorem dX3_pack_84 : decode cX3_pack 84 = .ok (.goto (-75), 3) := by decide +kernel
theorem dX3_pack_87 : decode cX3_pack 87 = .ok (.bipush (-9), 2) := by decide +kernel
theorem dX3_pack_89 : decode cX3_pack 89 = .ok (.ireturn, 1) := by decide +kernel
set_option maxRecDepth 20000 in
theorem ggX3_fullest_J13_bitCount_95d88 : GoodIn wsX3_fullest wsJ13_bitCount_95d88 := goodIn_r _ [7, 8, 9, 10] (by decide +kernel) (by decide +kernel)
set_option maxRecDepth 20000 in
theorem gX3_fullest_J13_bitCount_95d88 : GoodIn wsX3_fullest (va_wsS RX3 84 yJ13_bitCount_95d88 wsJ13_bitCount_95d88) := goodIn_app (goodIn_of _ (by decide +kernel)) ggX3_fullest_J13_bitCount_95d88
set_option maxRecDepth 20000 in
theorem ggX3_fullest_X3_isLaunched : GoodIn wsX3_fullest wsX3_isLaunched := goodIn_r _ [15, 16, 17, 18, 19, 20, 21, 22, 23, 24, 25, 26, 27, 28, 29, 30, 31, 32, 33, 34, 35, 36, 37, 38, 39] (by decide +kernel) (by decide +kernel)
set_option maxRecDepth 20000 in
theorem gX3_fullest_X3_isLaunched : GoodIn wsX3_fullest (wsV RX3 117 RX3 yX3_isLaunched wsX3_isLaunched) := goodIn_app (goodIn_of _ (by decide +kernel)) ggX3_fullest_X3_isLaunched
theorem dX3_fullest_0 : decode cX3_fullest 0 = .ok (.iconst 0, 1) := by decide +kernel
theorem dX3_fullest_1 : decode cX3_fullest 1 = .ok (.istore 7, 2) := by decide +kernel
theorem dX3_fullest_3 : decode cX3_fullest 3 = .ok (.bipush (-9), 2) := by decide +kernel
theorem dX3_fullest_5 : decode cX3_fullest 5 = .ok (.istore 8, 2) := by decide +kernel
theorem dX3_fullest_7 : decode cX3_fullest 7 = .ok (.iconst 0, 1) := by decide +kernel
theorem dX3_fullest_8 : decode cX3_fullest 8 = .ok (.istore 9, 2) := by decide +kernel
theorem dX3_fullest_10 : decode cX3_fullest 10 = .ok (.iload 9, 2) := by decide +kernel
theorem dX3_fullest_12 : decode cX3_fullest 12 = .ok (.sipush 256, 3) := by decide +kernel
theorem dX3_fullest_15 : decode cX3_fullest 15 = .ok (.if_icmp .ge 71, 3) := by decide +kernel
theorem dX3_fullest_18 : decode cX3_fullest 18 = .ok (.aload_n 0, 1) := by decide +kernel
theorem dX3_fullest_19 : decode cX3_fullest 19 = .ok (.getfield 22, 3) := by decide +kernel
theorem dX3_fullest_22 : decode cX3_fullest 22 = .ok (.iload 9, 2) := by decide +kernel
theorem dX3_fullest_24 : decode cX3_fullest 24 = .ok (.laload, 1) := by decide +kernel
theorem dX3_fullest_25 : decode cX3_fullest 25 = .ok (.lload_n 3, 1) := by decide +kernel
theorem dX3_fullest_26 : decode cX3_fullest 26 = .ok (.ldc2_w 115, 3) := by decide +kernel
theorem dX3_fullest_29 : decode cX3_fullest 29 = .ok (.lxor, 1) := by decide +kernel
theorem dX3_fullest_30 : decode cX3_fullest 30 = .ok (.land, 1) := by decide +kernel
theorem dX3_fullest_31 : decode cX3_fullest 31 = .ok (.invokestatic 84, 3) := by decide +kernel
theorem dX3_fullest_34 : decode cX3_fullest 34 = .ok (.aload_n 0, 1) := by decide +kernel
theorem dX3_fullest_35 : decode cX3_fullest 35 = .ok (.getfield 26, 3) := by decide +kernel
theorem dX3_fullest_38 : decode cX3_fullest 38 = .ok (.iload 9, 2) := by decide +kernel
theorem dX3_fullest_40 : decode cX3_fullest 40 = .ok (.laload, 1) := by decide +kernel
theorem dX3_fullest_41 : decode cX3_fullest 41 = .ok (.lload 5, 2) := by decide +kernel
theorem dX3_fullest_43 : decode cX3_fullest 43 = .ok (.ldc2_w 115, 3) := by decide +kernel
theorem dX3_fullest_46 : decode cX3_fullest 46 = .ok (.lxor, 1) := by decide +kernel
theorem dX3_fullest_47 : decode cX3_fullest 47 = .ok (.land, 1) := by decide +kernel
theorem dX3_fullest_48 : decode cX3_fullest 48 = .ok (.invokestatic 84, 3) := by decide +kernel
theorem dX3_fullest_51 : decode cX3_fullest 51 = .ok (.iadd, 1) := by decide +kernel
theorem dX3_fullest_52 : decode cX3_fullest 52 = .ok (.istore 10, 2) := by decide +kernel
theorem dX3_fullest_54 : decode cX3_fullest 54 = .ok (.iload 10, 2) := by decide +kernel
theorem dX3_fullest_56 : decode cX3_fullest 56 = .ok (.iload 7, 2) := by decide +kernel
theorem dX3_fullest_58 : decode cX3_fullest 58 = .ok (.if_icmp .le 22, 3) := by decide +kernel
theorem dX3_fullest_61 : decode cX3_fullest 61 = .ok (.aload_n 0, 1) := by decide +kernel
theorem dX3_fullest_62 : decode cX3_fullest 62 = .ok (.aload_n 1, 1) := by decide +kernel
theorem dX3_fullest_63 : decode cX3_fullest 63 = .ok (.iload_n 2, 1) := by decide +kernel
theorem dX3_fullest_64 : decode cX3_fullest 64 = .ok (.iload 9, 2) := by decide +kernel
theorem dX3_fullest_66 : decode cX3_fullest 66 = .ok (.invokevirtual 117, 3) := by decide +kernel
theorem dX3_fullest_69 : decode cX3_fullest 69 = .ok (.ifCond .eq 11, 3) := by decide +kernel
theorem dX3_fullest_72 : decode cX3_fullest 72 = .ok (.iload 10, 2) := by decide +kernel
theorem dX3_fullest_74 : decode cX3_fullest 74 = .ok (.istore 7, 2) := by decide +kernel
theorem dX3_fullest_76 : decode cX3_fullest 76 = .ok (.iload 9, 2) := by decide +kernel
theorem dX3_fullest_78 : decode cX3_fullest 78 = .ok (.istore 8, 2) := by decide +kernel
theorem dX3_fullest_80 : decode cX3_fullest 80 = .ok (.iinc 9 1, 3) := by decide +kernel
theorem dX3_fullest_83 : decode cX3_fullest 83 = .ok (.goto (-73), 3) := by decide +kernel
theorem dX3_fullest_86 : decode cX3_fullest 86 = .ok (.iload 8, 2) := by decide +kernel
theorem dX3_fullest_88 : decode cX3_fullest 88 = .ok (.ireturn, 1) := by decide +kernel
theorem dX4_init_0 : decode cX4_init 0 = .ok (.aload_n 0, 1) := by decide +kernel
theorem dX4_init_1 : decode cX4_init 1 = .ok (.invokespecial 3, 3) := by decide +kernel
theorem dX4_init_4 : decode cX4_init 4 = .ok (.aload_n 0, 1) := by decide +kernel
theorem dX4_init_5 : decode cX4_init 5 = .ok (.bipush 40, 2) := by decide +kernel
theorem dX4_init_7 : decode cX4_init 7 = .ok (.newarray .int, 2) := by decide +kernel
theorem dX4_init_9 : decode cX4_init 9 = .ok (.putfield 9, 3) := by decide +kernel
theorem dX4_init_12 : decode cX4_init 12 = .ok (.aload_n 0, 1) := by decide +kernel
theorem dX4_init_13 : decode cX4_init 13 = .ok (.iconst 0, 1) := by decide +kernel
theorem dX4_init_14 : decode cX4_init 14 = .ok (.putfield 15, 3) := by decide +kernel
theorem dX4_init_17 : decode cX4_init 17 = .ok (.aload_n 0, 1) := by decide +kernel
theorem dX4_init_18 : decode cX4_init 18 = .ok (.iconst 0, 1) := by decide +kernel
theorem dX4_init_19 : decode cX4_init 19 = .ok (.putfield 19, 3) := by decide +kernel
theorem dX4_init_22 : decode cX4_init 22 = .ok (.return_, 1) := by decide +kernel
set_option maxRecDepth 20000 in
theorem ggX4_readInto_X4_readHead : GoodIn wsX4_readInto wsX4_readHead := goodIn_r _ [10, 1, 2, 11, 12, 13, 9, 14, 5, 15, 39, 40, 41, 42, 43, 44, 45, 46, 47, 48, 49, 50, 51, 52] (by decide +kernel) (by decide +kernel)
set_option maxRecDepth 20000 in
theorem gX4_readInto_X4_readHead : GoodIn wsX4_readInto (wsV RX4 33 RX4 yX4_readHead wsX4_readHead) := goodIn_app (goodIn_of _ (by decide +kernel)) ggX4_readInto_X4_readHead
set_option maxRecDepth 20000 in
theorem ggX4_readInto_X4_readGates : GoodIn wsX4_readInto wsX4_readGates := goodIn_r _ [19, 1, 3, 11, 12, 13, 9, 14, 5, 15, 20, 21, 22, 23, 2, 24, 25, 26, 27, 28, 29, 30, 31, 32, 33, 39, 40, 41, 42, 43, 44, 45, 46, 47, 48, 49, 50, 51, 52] (by decide +kernel) (by decide +kernel)
set_option maxRecDepth 20000 in
theorem gX4_readInto_X4_readGates : GoodIn wsX4_readInto (wsV RX4 37 RX4 yX4_readGates wsX4_readGates) := goodIn_app (goodIn_of _ (by decide +kernel)) ggX4_readInto_X4_readGates
set_option maxRecDepth 20000 in
theorem ggX4_readInto_X4_readNexts : GoodIn wsX4_readInto wsX4_readNexts := goodIn_r _ [37, 2, 38, 30, 31, 32, 9, 33, 3, 1, 11, 12, 13, 14, 5, 15, 42, 43, 44, 45, 46, 47, 48, 49, 50, 51, 52, 39, 40, 41] (by decide +kernel) (by decide +kernel)
set_option maxRecDepth 20000 in
theorem gX4_readInto_X4_readNexts : GoodIn wsX4_readInto (wsV RX4 40 RX4 yX4_readNexts wsX4_readNexts) := goodIn_app (goodIn_of _ (by decide +kernel)) ggX4_readInto_X4_readNexts
theorem dX4_readInto_0 : decode cX4_readInto 0 = .ok (.aload_n 0, 1) := by decide +kernel
theorem dX4_readInto_1 : decode cX4_readInto 1 = .ok (.iconst 0, 1) := by decide +kernel
theorem dX4_readInto_2 : decode cX4_readInto 2 = .ok (.putfield 19, 3) := by decide +kernel
theorem dX4_readInto_5 : decode cX4_readInto 5 = .ok (.aload_n 1, 1) := by decide +kernel
theorem dX4_readInto_6 : decode cX4_readInto 6 = .ok (.iconst 0, 1) := by decide +kernel
theorem dX4_readInto_7 : decode cX4_readInto 7 = .ok (.putfield 22, 3) := by decide +kernel
theorem dX4_readInto_10 : decode cX4_readInto 10 = .ok (.aload_n 1, 1) := by decide +kernel
theorem dX4_readInto_11 : decode cX4_readInto 11 = .ok (.iconst 0, 1) := by decide +kernel
theorem dX4_readInto_12 : decode cX4_readInto 12 = .ok (.putfield 27, 3) := by decide +kernel
theorem dX4_readInto_15 : decode cX4_readInto 15 = .ok (.aload_n 1, 1) := by decide +kernel
theorem dX4_readInto_16 : decode cX4_readInto 16 = .ok (.iconst 0, 1) := by decide +kernel
theorem dX4_readInto_17 : decode cX4_readInto 17 = .ok (.putfield 30, 3) := by decide +kernel
theorem dX4_readInto_20 : decode cX4_readInto 20 = .ok (.aload_n 0, 1) := by decide +kernel
theorem dX4_readInto_21 : decode cX4_readInto 21 = .ok (.aload_n 1, 1) := by decide +kernel
theorem dX4_readInto_22 : decode cX4_readInto 22 = .ok (.invokevirtual 33, 3) := by decide +kernel
theorem dX4_readInto_25 : decode cX4_readInto 25 = .ok (.ifCond .eq 34, 3) := by decide +kernel
theorem dX4_readInto_28 : decode cX4_readInto 28 = .ok (.aload_n 0, 1) := by decide +kernel
theorem dX4_readInto_29 : decode cX4_readInto 29 = .ok (.aload_n 1, 1) := by decide +kernel
theorem dX4_readInto_30 : decode cX4_readInto 30 = .ok (.invokevirtual 37, 3) := by decide +kernel
theorem dX4_readInto_33 : decode cX4_readInto 33 = .ok (.ifCond .eq 26, 3) := by decide +kernel
theorem dX4_readInto_36 : decode cX4_readInto 36 = .ok (.aload_n 0, 1) := by decide +kernel
theorem dX4_readInto_37 : decode cX4_readInto 37 = .ok (.aload_n 1, 1) := by decide +kernel
theorem dX4_readInto_38 : decode cX4_readInto 38 = .ok (.invokevirtual 40, 3) := by decide +kernel
theorem dX4_readInto_41 : decode cX4_readInto 41 = .ok (.ifCond .eq 18, 3) := by decide +kernel
theorem dX4_readInto_44 : decode cX4_readInto 44 = .ok (.aload_n 0, 1) := by decide +kernel
theorem dX4_readInto_45 : decode cX4_readInto 45 = .ok (.getfield 19, 3) := by decide +kernel
theorem dX4_readInto_48 : decode cX4_readInto 48 = .ok (.aload_n 0, 1) := by decide +kernel
theorem dX4_readInto_49 : decode cX4_readInto 49 = .ok (.getfield 15, 3) := by decide +kernel
theorem dX4_readInto_52 : decode cX4_readInto 52 = .ok (.if_icmp .ne 7, 3) := by decide +kernel
theorem dX4_readInto_55 : decode cX4_readInto 55 = .ok (.iconst 1, 1) := by decide +kernel
theorem dX4_readInto_56 : decode cX4_readInto 56 = .ok (.goto 4, 3) := by decide +kernel
theorem dX4_readInto_59 : decode cX4_readInto 59 = .ok (.iconst 0, 1) := by decide +kernel
theorem dX4_readInto_60 : decode cX4_readInto 60 = .ok (.istore_n 2, 1) := by decide +kernel
theorem dX4_readInto_61 : decode cX4_readInto 61 = .ok (.iload_n 2, 1) := by decide +kernel
theorem dX4_readInto_62 : decode cX4_readInto 62 = .ok (.ifCond .eq 8, 3) := by decide +kernel
theorem dX4_readInto_65 : decode cX4_readInto 65 = .ok (.bipush (-9), 2) := by decide +kernel
theorem dX4_readInto_67 : decode cX4_readInto 67 = .ok (.goto 7, 3) := by decide +kernel
theorem dX4_readInto_70 : decode cX4_readInto 70 = .ok (.aload_n 0, 1) := by decide +kernel
theorem dX4_readInto_71 : decode cX4_readInto 71 = .ok (.getfield 19, 3) := by decide +kernel
theorem dX4_readInto_74 : decode cX4_readInto 74 = .ok (.ireturn, 1) := by decide +kernel
theorem dX4_letter_0 : decode cX4_letter 0 = .ok (.aload_n 0, 1) := by decide +kernel
theorem dX4_letter_1 : decode cX4_letter 1 = .ok (.getfield 19, 3) := by decide +kernel
theorem dX4_letter_4 : decode cX4_letter 4 = .ok (.aload_n 0, 1) := by decide +kernel
theorem dX4_letter_5 : decode cX4_letter 5 = .ok (.getfield 15, 3) := by decide +kernel
theorem dX4_letter_8 : decode cX4_letter 8 = .ok (.if_icmp .ge 24, 3) := by decide +kernel
theorem dX4_letter_11 : decode cX4_letter 11 = .ok (.aload_n 0, 1) := by decide +kernel
theorem dX4_letter_12 : decode cX4_letter 12 = .ok (.getfield 19, 3) := by decide +kernel
theorem dX4_letter_15 : decode cX4_letter 15 = .ok (.bipush 40, 2) := by decide +kernel
theorem dX4_letter_17 : decode cX4_letter 17 = .ok (.if_icmp .ge 15, 3) := by decide +kernel
theorem dX4_letter_20 : decode cX4_letter 20 = .ok (.aload_n 0, 1) := by decide +kernel
theorem dX4_letter_21 : decode cX4_letter 21 = .ok (.getfield 9, 3) := by decide +kernel
theorem dX4_letter_24 : decode cX4_letter 24 = .ok (.aload_n 0, 1) := by decide +kernel
theorem dX4_letter_25 : decode cX4_letter 25 = .ok (.getfield 19, 3) := by decide +kernel
theorem dX4_letter_28 : decode cX4_letter 28 = .ok (.iaload, 1) := by decide +kernel
theorem dX4_letter_29 : decode cX4_letter 29 = .ok (.goto 5, 3) := by decide +kernel
theorem dX4_letter_32 : decode cX4_letter 32 = .ok (.bipush (-9), 2) := by decide +kernel
theorem dX4_letter_34 : decode cX4_letter 34 = .ok (.ireturn, 1) := by decide +kernel
set_option maxRecDepth 20000 in
theorem ggX4_readHead_X4_letter : GoodIn wsX4_readHead wsX4_letter := goodIn_r _ [7, 1, 8, 9, 10, 11, 12] (by decide +kernel) (by decide +kernel)
set_option maxRecDepth 20000 in
theorem gX4_readHead_X4_letter : GoodIn wsX4_readHead (wsV RX4 43 RX4 yX4_letter wsX4_letter) := goodIn_app (goodIn_of _ (by decide +kernel)) ggX4_readHead_X4_letter
theorem dX4_readHead_0 : decode cX4_readHead 0 = .ok (.aload_n 0, 1) := by decide +kernel
theorem dX4_readHead_1 : decode cX4_readHead 1 = .ok (.invokevirtual 43, 3) := by decide +kernel
theorem dX4_readHead_4 : decode cX4_readHead 4 = .ok (.bipush 67, 2) := by decide +kernel
theorem dX4_readHead_6 : decode cX4_readHead 6 = .ok (.if_icmp .eq 5, 3) := by decide +kernel
theorem dX4_readHead_9 : decode cX4_readHead 9 = .ok (.iconst 0, 1) := by decide +kernel
theorem dX4_readHead_10 : decode cX4_readHead 10 = .ok (.ireturn, 1) := by decide +kernel
theorem dX4_readHead_11 : decode cX4_readHead 11 = .ok (.aload_n 0, 1) := by decide +kernel
theorem dX4_readHead_12 : decode cX4_readHead 12 = .ok (.dup, 1) := by decide +kernel
theorem dX4_readHead_13 : decode cX4_readHead 13 = .ok (.getfield 19, 3) := by decide +kernel
theorem dX4_readHead_16 : decode cX4_readHead 16 = .ok (.iconst 1, 1) := by decide +kernel
theorem dX4_readHead_17 : decode cX4_readHead 17 = .ok (.iadd, 1) := by decide +kernel
theorem dX4_readHead_18 : decode cX4_readHead 18 = .ok (.putfield 19, 3) := by decide +kernel
theorem dX4_readHead_21 : decode cX4_readHead 21 = .ok (.aload_n 0, 1) := by decide +kernel
theorem dX4_readHead_22 : decode cX4_readHead 22 = .ok (.invokevirtual 43, 3) := by decide +kernel
theorem dX4_readHead_25 : decode cX4_readHead 25 = .ok (.bipush 48, 2) := by decide +kernel
theorem dX4_readHead_27 : decode cX4_readHead 27 = .ok (.isub, 1) := by decide +kernel
theorem dX4_readHead_28 : decode cX4_readHead 28 = .ok (.istore_n 2, 1) := by decide +kernel
theorem dX4_readHead_29 : decode cX4_readHead 29 = .ok (.iload_n 2, 1) := by decide +kernel
theorem dX4_readHead_30 : decode cX4_readHead 30 = .ok (.iconst 1, 1) := by decide +kernel
theorem dX4_readHead_31 : decode cX4_readHead 31 = .ok (.if_icmp .lt 8, 3) := by decide +kernel
theorem dX4_readHead_34 : decode cX4_readHead 34 = .ok (.iload_n 2, 1) := by decide +kernel
theorem dX4_readHead_35 : decode cX4_readHead 35 = .ok (.iconst 4, 1) := by decide +kernel
theorem dX4_readHead_36 : decode cX4_readHead 36 = .ok (.if_icmp .le 5, 3) := by decide +kernel
theorem dX4_readHead_39 : decode cX4_readHead 39 = .ok (.iconst 0, 1) := by decide +kernel
theorem dX4_readHead_40 : decode cX4_readHead 40 = .ok (.ireturn, 1) := by decide +kernel
theorem dX4_readHead_41 : decode cX4_readHead 41 = .ok (.aload_n 0, 1) := by decide +kernel
theorem dX4_readHead_42 : decode cX4_readHead 42 = .ok (.dup, 1) := by decide +kernel
theorem dX4_readHead_43 : decode cX4_readHead 43 = .ok (.getfield 19, 3) := by decide +kernel
theorem dX4_readHead_46 : decode cX4_readHead 46 = .ok (.iconst 1, 1) := by decide +kernel
theorem dX4_readHead_47 : decode cX4_readHead 47 = .ok (.iadd, 1) := by decide +kernel
theorem dX4_readHead_48 : decode cX4_readHead 48 = .ok (.putfield 19, 3) := by decide +kernel
theorem dX4_readHead_51 : decode cX4_readHead 51 = .ok (.aload_n 1, 1) := by decide +kernel
theorem dX4_readHead_52 : decode cX4_readHead 52 = .ok (.iload_n 2, 1) := by decide +kernel
theorem dX4_readHead_53 : decode cX4_readHead 53 = .ok (.putfield 22, 3) := by decide +kernel
theorem dX4_readHead_56 : decode cX4_readHead 56 = .ok (.iconst 1, 1) := by decide +kernel
theorem dX4_readHead_57 : decode cX4_readHead 57 = .ok (.ireturn, 1) := by decide +kernel
set_option maxRecDepth 20000 in
theorem ggX4_readGates_X4_letter : GoodIn wsX4_readGates wsX4_letter := goodIn_r _ [7, 1, 8, 9, 25, 26, 27] (by decide +kernel) (by decide +kernel)
set_option maxRecDepth 20000 in
theorem gX4_readGates_X4_letter : GoodIn wsX4_readGates (wsV RX4 43 RX4 yX4_letter wsX4_letter) := goodIn_app (goodIn_of _ (by decide +kernel)) ggX4_readGates_X4_letter
set_option maxRecDepth 20000 in
theorem ggX4_readGates_X4_readGate : GoodIn wsX4_readGates wsX4_readGate := goodIn_r _ [13, 14, 1, 15, 16, 17, 3, 4, 5, 6, 7, 8, 9, 18, 19, 20, 21, 22, 23, 24, 2, 28, 29, 30, 31, 32, 33, 34, 35, 36, 37, 38, 25, 26, 27] (by decide +kernel) (by decide +kernel)
set_option maxRecDepth 20000 in
theorem gX4_readGates_X4_readGate : GoodIn wsX4_readGates (wsV RX4 47 RX4 yX4_readGate wsX4_readGate) := goodIn_app (goodIn_of _ (by decide +kernel)) ggX4_readGates_X4_readGate
theorem dX4_readGates_0 : decode cX4_readGates 0 = .ok (.iconst 0, 1) := by decide +kernel
theorem dX4_readGates_1 : decode cX4_readGates 1 = .ok (.istore_n 2, 1) := by decide +kernel
theorem dX4_readGates_2 : decode cX4_readGates 2 = .ok (.iload_n 2, 1) := by decide +kernel
theorem dX4_readGates_3 : decode cX4_readGates 3 = .ok (.bipush 8, 2) := by decide +kernel

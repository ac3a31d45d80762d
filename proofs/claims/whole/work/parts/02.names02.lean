theorem dX4_readGates_5 : decode cX4_readGates 5 = .ok (.if_icmp .gt 61, 3) := by decide +kernel
theorem dX4_readGates_8 : decode cX4_readGates 8 = .ok (.iload_n 2, 1) := by decide +kernel
theorem dX4_readGates_9 : decode cX4_readGates 9 = .ok (.ifCond .le 24, 3) := by decide +kernel
theorem dX4_readGates_12 : decode cX4_readGates 12 = .ok (.aload_n 0, 1) := by decide +kernel
theorem dX4_readGates_13 : decode cX4_readGates 13 = .ok (.invokevirtual 43, 3) := by decide +kernel
theorem dX4_readGates_16 : decode cX4_readGates 16 = .ok (.bipush 62, 2) := by decide +kernel
theorem dX4_readGates_18 : decode cX4_readGates 18 = .ok (.if_icmp .ne 15, 3) := by decide +kernel
theorem dX4_readGates_21 : decode cX4_readGates 21 = .ok (.aload_n 0, 1) := by decide +kernel
theorem dX4_readGates_22 : decode cX4_readGates 22 = .ok (.dup, 1) := by decide +kernel
theorem dX4_readGates_23 : decode cX4_readGates 23 = .ok (.getfield 19, 3) := by decide +kernel
theorem dX4_readGates_26 : decode cX4_readGates 26 = .ok (.iconst 1, 1) := by decide +kernel
theorem dX4_readGates_27 : decode cX4_readGates 27 = .ok (.iadd, 1) := by decide +kernel
theorem dX4_readGates_28 : decode cX4_readGates 28 = .ok (.putfield 19, 3) := by decide +kernel
theorem dX4_readGates_31 : decode cX4_readGates 31 = .ok (.iconst 1, 1) := by decide +kernel
theorem dX4_readGates_32 : decode cX4_readGates 32 = .ok (.ireturn, 1) := by decide +kernel
theorem dX4_readGates_33 : decode cX4_readGates 33 = .ok (.iload_n 2, 1) := by decide +kernel
theorem dX4_readGates_34 : decode cX4_readGates 34 = .ok (.bipush 8, 2) := by decide +kernel
theorem dX4_readGates_36 : decode cX4_readGates 36 = .ok (.if_icmp .eq 12, 3) := by decide +kernel
theorem dX4_readGates_39 : decode cX4_readGates 39 = .ok (.aload_n 0, 1) := by decide +kernel
theorem dX4_readGates_40 : decode cX4_readGates 40 = .ok (.aload_n 1, 1) := by decide +kernel
theorem dX4_readGates_41 : decode cX4_readGates 41 = .ok (.iload_n 2, 1) := by decide +kernel
theorem dX4_readGates_42 : decode cX4_readGates 42 = .ok (.invokevirtual 47, 3) := by decide +kernel
theorem dX4_readGates_45 : decode cX4_readGates 45 = .ok (.ifCond .ne 5, 3) := by decide +kernel
theorem dX4_readGates_48 : decode cX4_readGates 48 = .ok (.iconst 0, 1) := by decide +kernel
theorem dX4_readGates_49 : decode cX4_readGates 49 = .ok (.ireturn, 1) := by decide +kernel
theorem dX4_readGates_50 : decode cX4_readGates 50 = .ok (.aload_n 1, 1) := by decide +kernel
theorem dX4_readGates_51 : decode cX4_readGates 51 = .ok (.dup, 1) := by decide +kernel
theorem dX4_readGates_52 : decode cX4_readGates 52 = .ok (.getfield 27, 3) := by decide +kernel
theorem dX4_readGates_55 : decode cX4_readGates 55 = .ok (.iconst 1, 1) := by decide +kernel
theorem dX4_readGates_56 : decode cX4_readGates 56 = .ok (.iadd, 1) := by decide +kernel
theorem dX4_readGates_57 : decode cX4_readGates 57 = .ok (.putfield 27, 3) := by decide +kernel
theorem dX4_readGates_60 : decode cX4_readGates 60 = .ok (.iinc 2 1, 3) := by decide +kernel
theorem dX4_readGates_63 : decode cX4_readGates 63 = .ok (.goto (-61), 3) := by decide +kernel
theorem dX4_readGates_66 : decode cX4_readGates 66 = .ok (.iconst 0, 1) := by decide +kernel
theorem dX4_readGates_67 : decode cX4_readGates 67 = .ok (.ireturn, 1) := by decide +kernel
set_option maxRecDepth 20000 in
theorem ggX4_readGate_X4_letter : GoodIn wsX4_readGate wsX4_letter := goodIn_r _ [10, 2, 11, 12, 32, 33, 34] (by decide +kernel) (by decide +kernel)
set_option maxRecDepth 20000 in
theorem gX4_readGate_X4_letter : GoodIn wsX4_readGate (wsV RX4 43 RX4 yX4_letter wsX4_letter) := goodIn_app (goodIn_of _ (by decide +kernel)) ggX4_readGate_X4_letter
set_option maxRecDepth 20000 in
theorem ggX4_readGate_X4_kindOf : GoodIn wsX4_readGate wsX4_kindOf := goodIn_r _ [15] (by decide +kernel) (by decide +kernel)
set_option maxRecDepth 20000 in
theorem gX4_readGate_X4_kindOf : GoodIn wsX4_readGate (va_wsS RX4 51 yX4_kindOf wsX4_kindOf) := goodIn_app (goodIn_of _ (by decide +kernel)) ggX4_readGate_X4_kindOf
set_option maxRecDepth 20000 in
theorem ggX4_readGate_X4_readSignal : GoodIn wsX4_readGate wsX4_readSignal := goodIn_r _ [19, 1, 20, 2, 6, 7, 8, 9, 10, 11, 12, 21, 22, 23, 24, 25, 26, 27, 28, 29, 30, 31, 32, 33, 34] (by decide +kernel) (by decide +kernel)
set_option maxRecDepth 20000 in
theorem gX4_readGate_X4_readSignal : GoodIn wsX4_readGate (wsV RX4 55 RX4 yX4_readSignal wsX4_readSignal) := goodIn_app (goodIn_of _ (by decide +kernel)) ggX4_readGate_X4_readSignal
theorem dX4_readGate_0 : decode cX4_readGate 0 = .ok (.aload_n 0, 1) := by decide +kernel
theorem dX4_readGate_1 : decode cX4_readGate 1 = .ok (.invokevirtual 43, 3) := by decide +kernel
theorem dX4_readGate_4 : decode cX4_readGate 4 = .ok (.invokestatic 51, 3) := by decide +kernel
theorem dX4_readGate_7 : decode cX4_readGate 7 = .ok (.istore_n 3, 1) := by decide +kernel
theorem dX4_readGate_8 : decode cX4_readGate 8 = .ok (.iload_n 3, 1) := by decide +kernel
theorem dX4_readGate_9 : decode cX4_readGate 9 = .ok (.bipush (-9), 2) := by decide +kernel
theorem dX4_readGate_11 : decode cX4_readGate 11 = .ok (.if_icmp .eq 18, 3) := by decide +kernel
theorem dX4_readGate_14 : decode cX4_readGate 14 = .ok (.iload_n 3, 1) := by decide +kernel
theorem dX4_readGate_15 : decode cX4_readGate 15 = .ok (.iconst 4, 1) := by decide +kernel
theorem dX4_readGate_16 : decode cX4_readGate 16 = .ok (.if_icmp .eq 15, 3) := by decide +kernel
theorem dX4_readGate_19 : decode cX4_readGate 19 = .ok (.aload_n 1, 1) := by decide +kernel
theorem dX4_readGate_20 : decode cX4_readGate 20 = .ok (.getfield 22, 3) := by decide +kernel
theorem dX4_readGate_23 : decode cX4_readGate 23 = .ok (.iload_n 2, 1) := by decide +kernel
theorem dX4_readGate_24 : decode cX4_readGate 24 = .ok (.iadd, 1) := by decide +kernel
theorem dX4_readGate_25 : decode cX4_readGate 25 = .ok (.iconst 2, 1) := by decide +kernel
theorem dX4_readGate_26 : decode cX4_readGate 26 = .ok (.if_icmp .ge 5, 3) := by decide +kernel
theorem dX4_readGate_29 : decode cX4_readGate 29 = .ok (.iconst 0, 1) := by decide +kernel
theorem dX4_readGate_30 : decode cX4_readGate 30 = .ok (.ireturn, 1) := by decide +kernel
theorem dX4_readGate_31 : decode cX4_readGate 31 = .ok (.aload_n 0, 1) := by decide +kernel
theorem dX4_readGate_32 : decode cX4_readGate 32 = .ok (.dup, 1) := by decide +kernel
theorem dX4_readGate_33 : decode cX4_readGate 33 = .ok (.getfield 19, 3) := by decide +kernel
theorem dX4_readGate_36 : decode cX4_readGate 36 = .ok (.iconst 1, 1) := by decide +kernel
theorem dX4_readGate_37 : decode cX4_readGate 37 = .ok (.iadd, 1) := by decide +kernel
theorem dX4_readGate_38 : decode cX4_readGate 38 = .ok (.putfield 19, 3) := by decide +kernel
theorem dX4_readGate_41 : decode cX4_readGate 41 = .ok (.aload_n 0, 1) := by decide +kernel
theorem dX4_readGate_42 : decode cX4_readGate 42 = .ok (.aload_n 1, 1) := by decide +kernel
theorem dX4_readGate_43 : decode cX4_readGate 43 = .ok (.bipush (-9), 2) := by decide +kernel
theorem dX4_readGate_45 : decode cX4_readGate 45 = .ok (.invokevirtual 55, 3) := by decide +kernel
theorem dX4_readGate_48 : decode cX4_readGate 48 = .ok (.istore 4, 2) := by decide +kernel
theorem dX4_readGate_50 : decode cX4_readGate 50 = .ok (.iload 4, 2) := by decide +kernel
theorem dX4_readGate_52 : decode cX4_readGate 52 = .ok (.bipush (-9), 2) := by decide +kernel
theorem dX4_readGate_54 : decode cX4_readGate 54 = .ok (.if_icmp .ne 5, 3) := by decide +kernel
theorem dX4_readGate_57 : decode cX4_readGate 57 = .ok (.iconst 0, 1) := by decide +kernel
theorem dX4_readGate_58 : decode cX4_readGate 58 = .ok (.ireturn, 1) := by decide +kernel
theorem dX4_readGate_59 : decode cX4_readGate 59 = .ok (.bipush (-9), 2) := by decide +kernel
theorem dX4_readGate_61 : decode cX4_readGate 61 = .ok (.istore 5, 2) := by decide +kernel
theorem dX4_readGate_63 : decode cX4_readGate 63 = .ok (.iload_n 3, 1) := by decide +kernel
theorem dX4_readGate_64 : decode cX4_readGate 64 = .ok (.iconst 4, 1) := by decide +kernel
theorem dX4_readGate_65 : decode cX4_readGate 65 = .ok (.if_icmp .eq 21, 3) := by decide +kernel
theorem dX4_readGate_68 : decode cX4_readGate 68 = .ok (.aload_n 0, 1) := by decide +kernel
theorem dX4_readGate_69 : decode cX4_readGate 69 = .ok (.aload_n 1, 1) := by decide +kernel
theorem dX4_readGate_70 : decode cX4_readGate 70 = .ok (.iload 4, 2) := by decide +kernel
theorem dX4_readGate_72 : decode cX4_readGate 72 = .ok (.invokevirtual 55, 3) := by decide +kernel
theorem dX4_readGate_75 : decode cX4_readGate 75 = .ok (.istore 5, 2) := by decide +kernel
theorem dX4_readGate_77 : decode cX4_readGate 77 = .ok (.iload 5, 2) := by decide +kernel
theorem dX4_readGate_79 : decode cX4_readGate 79 = .ok (.bipush (-9), 2) := by decide +kernel
theorem dX4_readGate_81 : decode cX4_readGate 81 = .ok (.if_icmp .ne 5, 3) := by decide +kernel
theorem dX4_readGate_84 : decode cX4_readGate 84 = .ok (.iconst 0, 1) := by decide +kernel
theorem dX4_readGate_85 : decode cX4_readGate 85 = .ok (.ireturn, 1) := by decide +kernel
theorem dX4_readGate_86 : decode cX4_readGate 86 = .ok (.aload_n 1, 1) := by decide +kernel
theorem dX4_readGate_87 : decode cX4_readGate 87 = .ok (.getfield 59, 3) := by decide +kernel
theorem dX4_readGate_90 : decode cX4_readGate 90 = .ok (.iload_n 2, 1) := by decide +kernel
theorem dX4_readGate_91 : decode cX4_readGate 91 = .ok (.iload_n 3, 1) := by decide +kernel
theorem dX4_readGate_92 : decode cX4_readGate 92 = .ok (.iastore, 1) := by decide +kernel
theorem dX4_readGate_93 : decode cX4_readGate 93 = .ok (.aload_n 1, 1) := by decide +kernel
theorem dX4_readGate_94 : decode cX4_readGate 94 = .ok (.getfield 62, 3) := by decide +kernel
theorem dX4_readGate_97 : decode cX4_readGate 97 = .ok (.iload_n 2, 1) := by decide +kernel
theorem dX4_readGate_98 : decode cX4_readGate 98 = .ok (.iload 4, 2) := by decide +kernel
theorem dX4_readGate_100 : decode cX4_readGate 100 = .ok (.iastore, 1) := by decide +kernel
theorem dX4_readGate_101 : decode cX4_readGate 101 = .ok (.aload_n 1, 1) := by decide +kernel
theorem dX4_readGate_102 : decode cX4_readGate 102 = .ok (.getfield 65, 3) := by decide +kernel
theorem dX4_readGate_105 : decode cX4_readGate 105 = .ok (.iload_n 2, 1) := by decide +kernel
theorem dX4_readGate_106 : decode cX4_readGate 106 = .ok (.iload 5, 2) := by decide +kernel
theorem dX4_readGate_108 : decode cX4_readGate 108 = .ok (.iastore, 1) := by decide +kernel
theorem dX4_readGate_109 : decode cX4_readGate 109 = .ok (.iconst 1, 1) := by decide +kernel
theorem dX4_readGate_110 : decode cX4_readGate 110 = .ok (.ireturn, 1) := by decide +kernel
theorem dX4_kindOf_0 : decode cX4_kindOf 0 = .ok (.iload_n 0, 1) := by decide +kernel
theorem dX4_kindOf_1 : decode cX4_kindOf 1 = .ok (.lookupswitch 61 #[(38, 51), (110, 55), (111, 57), (124, 53), (126, 59)], 51) := by decide +kernel
theorem dX4_kindOf_52 : decode cX4_kindOf 52 = .ok (.iconst 0, 1) := by decide +kernel
theorem dX4_kindOf_53 : decode cX4_kindOf 53 = .ok (.ireturn, 1) := by decide +kernel
theorem dX4_kindOf_54 : decode cX4_kindOf 54 = .ok (.iconst 1, 1) := by decide +kernel
theorem dX4_kindOf_55 : decode cX4_kindOf 55 = .ok (.ireturn, 1) := by decide +kernel
theorem dX4_kindOf_56 : decode cX4_kindOf 56 = .ok (.iconst 2, 1) := by decide +kernel
theorem dX4_kindOf_57 : decode cX4_kindOf 57 = .ok (.ireturn, 1) := by decide +kernel
theorem dX4_kindOf_58 : decode cX4_kindOf 58 = .ok (.iconst 3, 1) := by decide +kernel
theorem dX4_kindOf_59 : decode cX4_kindOf 59 = .ok (.ireturn, 1) := by decide +kernel
theorem dX4_kindOf_60 : decode cX4_kindOf 60 = .ok (.iconst 4, 1) := by decide +kernel
theorem dX4_kindOf_61 : decode cX4_kindOf 61 = .ok (.ireturn, 1) := by decide +kernel
theorem dX4_kindOf_62 : decode cX4_kindOf 62 = .ok (.bipush (-9), 2) := by decide +kernel
theorem dX4_kindOf_64 : decode cX4_kindOf 64 = .ok (.ireturn, 1) := by decide +kernel
set_option maxRecDepth 20000 in
theorem ggX4_readSignal_X4_letter : GoodIn wsX4_readSignal wsX4_letter := goodIn_r _ [8, 3, 9, 10, 22, 23, 24] (by decide +kernel) (by decide +kernel)
set_option maxRecDepth 20000 in
theorem gX4_readSignal_X4_letter : GoodIn wsX4_readSignal (wsV RX4 43 RX4 yX4_letter wsX4_letter) := goodIn_app (goodIn_of _ (by decide +kernel)) ggX4_readSignal_X4_letter
theorem dX4_readSignal_0 : decode cX4_readSignal 0 = .ok (.aload_n 0, 1) := by decide +kernel
theorem dX4_readSignal_1 : decode cX4_readSignal 1 = .ok (.invokevirtual 43, 3) := by decide +kernel
theorem dX4_readSignal_4 : decode cX4_readSignal 4 = .ok (.istore_n 3, 1) := by decide +kernel
theorem dX4_readSignal_5 : decode cX4_readSignal 5 = .ok (.bipush (-9), 2) := by decide +kernel
theorem dX4_readSignal_7 : decode cX4_readSignal 7 = .ok (.istore 4, 2) := by decide +kernel
theorem dX4_readSignal_9 : decode cX4_readSignal 9 = .ok (.iload_n 3, 1) := by decide +kernel
theorem dX4_readSignal_10 : decode cX4_readSignal 10 = .ok (.bipush 97, 2) := by decide +kernel
theorem dX4_readSignal_12 : decode cX4_readSignal 12 = .ok (.if_icmp .lt 23, 3) := by decide +kernel
theorem dX4_readSignal_15 : decode cX4_readSignal 15 = .ok (.iload_n 3, 1) := by decide +kernel
theorem dX4_readSignal_16 : decode cX4_readSignal 16 = .ok (.bipush 97, 2) := by decide +kernel
theorem dX4_readSignal_18 : decode cX4_readSignal 18 = .ok (.aload_n 1, 1) := by decide +kernel
theorem dX4_readSignal_19 : decode cX4_readSignal 19 = .ok (.getfield 22, 3) := by decide +kernel
theorem dX4_readSignal_22 : decode cX4_readSignal 22 = .ok (.iadd, 1) := by decide +kernel
theorem dX4_readSignal_23 : decode cX4_readSignal 23 = .ok (.if_icmp .ge 12, 3) := by decide +kernel
theorem dX4_readSignal_26 : decode cX4_readSignal 26 = .ok (.iload_n 3, 1) := by decide +kernel
theorem dX4_readSignal_27 : decode cX4_readSignal 27 = .ok (.bipush 97, 2) := by decide +kernel
theorem dX4_readSignal_29 : decode cX4_readSignal 29 = .ok (.isub, 1) := by decide +kernel
theorem dX4_readSignal_30 : decode cX4_readSignal 30 = .ok (.istore 4, 2) := by decide +kernel
theorem dX4_readSignal_32 : decode cX4_readSignal 32 = .ok (.goto 29, 3) := by decide +kernel
theorem dX4_readSignal_35 : decode cX4_readSignal 35 = .ok (.iload_n 3, 1) := by decide +kernel
theorem dX4_readSignal_36 : decode cX4_readSignal 36 = .ok (.bipush 48, 2) := by decide +kernel
theorem dX4_readSignal_38 : decode cX4_readSignal 38 = .ok (.if_icmp .lt 23, 3) := by decide +kernel
theorem dX4_readSignal_41 : decode cX4_readSignal 41 = .ok (.iload_n 3, 1) := by decide +kernel
theorem dX4_readSignal_42 : decode cX4_readSignal 42 = .ok (.bipush 48, 2) := by decide +kernel
theorem dX4_readSignal_44 : decode cX4_readSignal 44 = .ok (.aload_n 1, 1) := by decide +kernel
theorem dX4_readSignal_45 : decode cX4_readSignal 45 = .ok (.getfield 27, 3) := by decide +kernel
theorem dX4_readSignal_48 : decode cX4_readSignal 48 = .ok (.iadd, 1) := by decide +kernel
theorem dX4_readSignal_49 : decode cX4_readSignal 49 = .ok (.if_icmp .ge 12, 3) := by decide +kernel
theorem dX4_readSignal_52 : decode cX4_readSignal 52 = .ok (.bipush 10, 2) := by decide +kernel
theorem dX4_readSignal_54 : decode cX4_readSignal 54 = .ok (.iload_n 3, 1) := by decide +kernel
theorem dX4_readSignal_55 : decode cX4_readSignal 55 = .ok (.iadd, 1) := by decide +kernel
theorem dX4_readSignal_56 : decode cX4_readSignal 56 = .ok (.bipush 48, 2) := by decide +kernel
theorem dX4_readSignal_58 : decode cX4_readSignal 58 = .ok (.isub, 1) := by decide +kernel
theorem dX4_readSignal_59 : decode cX4_readSignal 59 = .ok (.istore 4, 2) := by decide +kernel
theorem dX4_readSignal_61 : decode cX4_readSignal 61 = .ok (.iload 4, 2) := by decide +kernel
theorem dX4_readSignal_63 : decode cX4_readSignal 63 = .ok (.iload_n 2, 1) := by decide +kernel
theorem dX4_readSignal_64 : decode cX4_readSignal 64 = .ok (.if_icmp .ne 6, 3) := by decide +kernel
theorem dX4_readSignal_67 : decode cX4_readSignal 67 = .ok (.bipush (-9), 2) := by decide +kernel
theorem dX4_readSignal_69 : decode cX4_readSignal 69 = .ok (.ireturn, 1) := by decide +kernel
theorem dX4_readSignal_70 : decode cX4_readSignal 70 = .ok (.iload 4, 2) := by decide +kernel
theorem dX4_readSignal_72 : decode cX4_readSignal 72 = .ok (.bipush (-9), 2) := by decide +kernel
theorem dX4_readSignal_74 : decode cX4_readSignal 74 = .ok (.if_icmp .eq 13, 3) := by decide +kernel
theorem dX4_readSignal_77 : decode cX4_readSignal 77 = .ok (.aload_n 0, 1) := by decide +kernel
theorem dX4_readSignal_78 : decode cX4_readSignal 78 = .ok (.dup, 1) := by decide +kernel
theorem dX4_readSignal_79 : decode cX4_readSignal 79 = .ok (.getfield 19, 3) := by decide +kernel
theorem dX4_readSignal_82 : decode cX4_readSignal 82 = .ok (.iconst 1, 1) := by decide +kernel
theorem dX4_readSignal_83 : decode cX4_readSignal 83 = .ok (.iadd, 1) := by decide +kernel
theorem dX4_readSignal_84 : decode cX4_readSignal 84 = .ok (.putfield 19, 3) := by decide +kernel
theorem dX4_readSignal_87 : decode cX4_readSignal 87 = .ok (.iload 4, 2) := by decide +kernel
theorem dX4_readSignal_89 : decode cX4_readSignal 89 = .ok (.ireturn, 1) := by decide +kernel
set_option maxRecDepth 20000 in
theorem ggX4_readNexts_X4_readSignal : GoodIn wsX4_readNexts wsX4_readSignal := goodIn_r _ [7, 1, 8, 9, 10, 11, 12, 6, 13, 14, 15, 16, 17, 18, 19, 20, 21, 22, 23, 24, 25, 26, 27, 28, 29] (by decide +kernel) (by decide +kernel)
set_option maxRecDepth 20000 in
theorem gX4_readNexts_X4_readSignal : GoodIn wsX4_readNexts (wsV RX4 55 RX4 yX4_readSignal wsX4_readSignal) := goodIn_app (goodIn_of _ (by decide +kernel)) ggX4_readNexts_X4_readSignal
theorem dX4_readNexts_0 : decode cX4_readNexts 0 = .ok (.iconst 0, 1) := by decide +kernel
theorem dX4_readNexts_1 : decode cX4_readNexts 1 = .ok (.istore_n 2, 1) := by decide +kernel
theorem dX4_readNexts_2 : decode cX4_readNexts 2 = .ok (.iload_n 2, 1) := by decide +kernel
theorem dX4_readNexts_3 : decode cX4_readNexts 3 = .ok (.aload_n 1, 1) := by decide +kernel
theorem dX4_readNexts_4 : decode cX4_readNexts 4 = .ok (.getfield 22, 3) := by decide +kernel
theorem dX4_readNexts_7 : decode cX4_readNexts 7 = .ok (.if_icmp .ge 37, 3) := by decide +kernel
theorem dX4_readNexts_10 : decode cX4_readNexts 10 = .ok (.iload_n 2, 1) := by decide +kernel
theorem dX4_readNexts_11 : decode cX4_readNexts 11 = .ok (.iconst 4, 1) := by decide +kernel
theorem dX4_readNexts_12 : decode cX4_readNexts 12 = .ok (.if_icmp .ge 32, 3) := by decide +kernel
theorem dX4_readNexts_15 : decode cX4_readNexts 15 = .ok (.aload_n 0, 1) := by decide +kernel
theorem dX4_readNexts_16 : decode cX4_readNexts 16 = .ok (.aload_n 1, 1) := by decide +kernel
theorem dX4_readNexts_17 : decode cX4_readNexts 17 = .ok (.bipush (-9), 2) := by decide +kernel
theorem dX4_readNexts_19 : decode cX4_readNexts 19 = .ok (.invokevirtual 55, 3) := by decide +kernel
theorem dX4_readNexts_22 : decode cX4_readNexts 22 = .ok (.istore_n 3, 1) := by decide +kernel
theorem dX4_readNexts_23 : decode cX4_readNexts 23 = .ok (.iload_n 3, 1) := by decide +kernel
theorem dX4_readNexts_24 : decode cX4_readNexts 24 = .ok (.bipush (-9), 2) := by decide +kernel
theorem dX4_readNexts_26 : decode cX4_readNexts 26 = .ok (.if_icmp .ne 5, 3) := by decide +kernel
theorem dX4_readNexts_29 : decode cX4_readNexts 29 = .ok (.iconst 0, 1) := by decide +kernel
theorem dX4_readNexts_30 : decode cX4_readNexts 30 = .ok (.ireturn, 1) := by decide +kernel
theorem dX4_readNexts_31 : decode cX4_readNexts 31 = .ok (.aload_n 1, 1) := by decide +kernel
theorem dX4_readNexts_32 : decode cX4_readNexts 32 = .ok (.getfield 68, 3) := by decide +kernel
theorem dX4_readNexts_35 : decode cX4_readNexts 35 = .ok (.iload_n 2, 1) := by decide +kernel
theorem dX4_readNexts_36 : decode cX4_readNexts 36 = .ok (.iload_n 3, 1) := by decide +kernel
theorem dX4_readNexts_37 : decode cX4_readNexts 37 = .ok (.iastore, 1) := by decide +kernel
theorem dX4_readNexts_38 : decode cX4_readNexts 38 = .ok (.iinc 2 1, 3) := by decide +kernel
theorem dX4_readNexts_41 : decode cX4_readNexts 41 = .ok (.goto (-39), 3) := by decide +kernel
theorem dX4_readNexts_44 : decode cX4_readNexts 44 = .ok (.iconst 1, 1) := by decide +kernel
theorem dX4_readNexts_45 : decode cX4_readNexts 45 = .ok (.ireturn, 1) := by decide +kernel
theorem dX5_init_0 : decode cX5_init 0 = .ok (.aload_n 0, 1) := by decide +kernel
theorem dX5_init_1 : decode cX5_init 1 = .ok (.invokespecial 3, 3) := by decide +kernel
theorem dX5_init_4 : decode cX5_init 4 = .ok (.aload_n 0, 1) := by decide +kernel
theorem dX5_init_5 : decode cX5_init 5 = .ok (.bipush 8, 2) := by decide +kernel
theorem dX5_init_7 : decode cX5_init 7 = .ok (.newarray .int, 2) := by decide +kernel
theorem dX5_init_9 : decode cX5_init 9 = .ok (.putfield 9, 3) := by decide +kernel
theorem dX5_init_12 : decode cX5_init 12 = .ok (.aload_n 0, 1) := by decide +kernel
theorem dX5_init_13 : decode cX5_init 13 = .ok (.bipush 8, 2) := by decide +kernel
theorem dX5_init_15 : decode cX5_init 15 = .ok (.newarray .int, 2) := by decide +kernel
theorem dX5_init_17 : decode cX5_init 17 = .ok (.putfield 15, 3) := by decide +kernel
theorem dX5_init_20 : decode cX5_init 20 = .ok (.aload_n 0, 1) := by decide +kernel
theorem dX5_init_21 : decode cX5_init 21 = .ok (.iconst 0, 1) := by decide +kernel
theorem dX5_init_22 : decode cX5_init 22 = .ok (.putfield 18, 3) := by decide +kernel
theorem dX5_init_25 : decode cX5_init 25 = .ok (.return_, 1) := by decide +kernel
theorem dX5_begin_0 : decode cX5_begin 0 = .ok (.iconst 0, 1) := by decide +kernel
theorem dX5_begin_1 : decode cX5_begin 1 = .ok (.istore_n 2, 1) := by decide +kernel
theorem dX5_begin_2 : decode cX5_begin 2 = .ok (.iload_n 2, 1) := by decide +kernel
theorem dX5_begin_3 : decode cX5_begin 3 = .ok (.bipush 8, 2) := by decide +kernel
theorem dX5_begin_5 : decode cX5_begin 5 = .ok (.if_icmp .ge 28, 3) := by decide +kernel
theorem dX5_begin_8 : decode cX5_begin 8 = .ok (.aload_n 0, 1) := by decide +kernel
theorem dX5_begin_9 : decode cX5_begin 9 = .ok (.getfield 9, 3) := by decide +kernel
theorem dX5_begin_12 : decode cX5_begin 12 = .ok (.iload_n 2, 1) := by decide +kernel
theorem dX5_begin_13 : decode cX5_begin 13 = .ok (.aload_n 1, 1) := by decide +kernel
theorem dX5_begin_14 : decode cX5_begin 14 = .ok (.getfield 22, 3) := by decide +kernel
theorem dX5_begin_17 : decode cX5_begin 17 = .ok (.iload_n 2, 1) := by decide +kernel
theorem dX5_begin_18 : decode cX5_begin 18 = .ok (.iaload, 1) := by decide +kernel
theorem dX5_begin_19 : decode cX5_begin 19 = .ok (.iastore, 1) := by decide +kernel
theorem dX5_begin_20 : decode cX5_begin 20 = .ok (.aload_n 0, 1) := by decide +kernel
theorem dX5_begin_21 : decode cX5_begin 21 = .ok (.getfield 15, 3) := by decide +kernel
theorem dX5_begin_24 : decode cX5_begin 24 = .ok (.iload_n 2, 1) := by decide +kernel
theorem dX5_begin_25 : decode cX5_begin 25 = .ok (.iconst 1, 1) := by decide +kernel
theorem dX5_begin_26 : decode cX5_begin 26 = .ok (.iastore, 1) := by decide +kernel
theorem dX5_begin_27 : decode cX5_begin 27 = .ok (.iinc 2 1, 3) := by decide +kernel
theorem dX5_begin_30 : decode cX5_begin 30 = .ok (.goto (-28), 3) := by decide +kernel
theorem dX5_begin_33 : decode cX5_begin 33 = .ok (.return_, 1) := by decide +kernel
theorem dX5_copyFrom_0 : decode cX5_copyFrom 0 = .ok (.iconst 0, 1) := by decide +kernel
theorem dX5_copyFrom_1 : decode cX5_copyFrom 1 = .ok (.istore_n 2, 1) := by decide +kernel
theorem dX5_copyFrom_2 : decode cX5_copyFrom 2 = .ok (.iload_n 2, 1) := by decide +kernel
theorem dX5_copyFrom_3 : decode cX5_copyFrom 3 = .ok (.bipush 8, 2) := by decide +kernel
theorem dX5_copyFrom_5 : decode cX5_copyFrom 5 = .ok (.if_icmp .ge 33, 3) := by decide +kernel
theorem dX5_copyFrom_8 : decode cX5_copyFrom 8 = .ok (.aload_n 0, 1) := by decide +kernel
theorem dX5_copyFrom_9 : decode cX5_copyFrom 9 = .ok (.getfield 9, 3) := by decide +kernel
theorem dX5_copyFrom_12 : decode cX5_copyFrom 12 = .ok (.iload_n 2, 1) := by decide +kernel
theorem dX5_copyFrom_13 : decode cX5_copyFrom 13 = .ok (.aload_n 1, 1) := by decide +kernel
theorem dX5_copyFrom_14 : decode cX5_copyFrom 14 = .ok (.getfield 9, 3) := by decide +kernel
theorem dX5_copyFrom_17 : decode cX5_copyFrom 17 = .ok (.iload_n 2, 1) := by decide +kernel
theorem dX5_copyFrom_18 : decode cX5_copyFrom 18 = .ok (.iaload, 1) := by decide +kernel
theorem dX5_copyFrom_19 : decode cX5_copyFrom 19 = .ok (.iastore, 1) := by decide +kernel
theorem dX5_copyFrom_20 : decode cX5_copyFrom 20 = .ok (.aload_n 0, 1) := by decide +kernel
theorem dX5_copyFrom_21 : decode cX5_copyFrom 21 = .ok (.getfield 15, 3) := by decide +kernel
theorem dX5_copyFrom_24 : decode cX5_copyFrom 24 = .ok (.iload_n 2, 1) := by decide +kernel
theorem dX5_copyFrom_25 : decode cX5_copyFrom 25 = .ok (.aload_n 1, 1) := by decide +kernel
theorem dX5_copyFrom_26 : decode cX5_copyFrom 26 = .ok (.getfield 15, 3) := by decide +kernel
theorem dX5_copyFrom_29 : decode cX5_copyFrom 29 = .ok (.iload_n 2, 1) := by decide +kernel
theorem dX5_copyFrom_30 : decode cX5_copyFrom 30 = .ok (.iaload, 1) := by decide +kernel
theorem dX5_copyFrom_31 : decode cX5_copyFrom 31 = .ok (.iastore, 1) := by decide +kernel
theorem dX5_copyFrom_32 : decode cX5_copyFrom 32 = .ok (.iinc 2 1, 3) := by decide +kernel
theorem dX5_copyFrom_35 : decode cX5_copyFrom 35 = .ok (.goto (-33), 3) := by decide +kernel
theorem dX5_copyFrom_38 : decode cX5_copyFrom 38 = .ok (.return_, 1) := by decide +kernel
theorem dX5_delaysTogether_0 : decode cX5_delaysTogether 0 = .ok (.iconst 0, 1) := by decide +kernel
theorem dX5_delaysTogether_1 : decode cX5_delaysTogether 1 = .ok (.istore_n 2, 1) := by decide +kernel
theorem dX5_delaysTogether_2 : decode cX5_delaysTogether 2 = .ok (.iconst 0, 1) := by decide +kernel
theorem dX5_delaysTogether_3 : decode cX5_delaysTogether 3 = .ok (.istore_n 3, 1) := by decide +kernel
theorem dX5_delaysTogether_4 : decode cX5_delaysTogether 4 = .ok (.iload_n 3, 1) := by decide +kernel
theorem dX5_delaysTogether_5 : decode cX5_delaysTogether 5 = .ok (.aload_n 1, 1) := by decide +kernel
theorem dX5_delaysTogether_6 : decode cX5_delaysTogether 6 = .ok (.getfield 27, 3) := by decide +kernel
theorem dX5_delaysTogether_9 : decode cX5_delaysTogether 9 = .ok (.if_icmp .ge 18, 3) := by decide +kernel
theorem dX5_delaysTogether_12 : decode cX5_delaysTogether 12 = .ok (.iload_n 2, 1) := by decide +kernel
theorem dX5_delaysTogether_13 : decode cX5_delaysTogether 13 = .ok (.aload_n 0, 1) := by decide +kernel
theorem dX5_delaysTogether_14 : decode cX5_delaysTogether 14 = .ok (.getfield 15, 3) := by decide +kernel
theorem dX5_delaysTogether_17 : decode cX5_delaysTogether 17 = .ok (.iload_n 3, 1) := by decide +kernel
theorem dX5_delaysTogether_18 : decode cX5_delaysTogether 18 = .ok (.iaload, 1) := by decide +kernel
theorem dX5_delaysTogether_19 : decode cX5_delaysTogether 19 = .ok (.iadd, 1) := by decide +kernel
theorem dX5_delaysTogether_20 : decode cX5_delaysTogether 20 = .ok (.istore_n 2, 1) := by decide +kernel
theorem dX5_delaysTogether_21 : decode cX5_delaysTogether 21 = .ok (.iinc 3 1, 3) := by decide +kernel
theorem dX5_delaysTogether_24 : decode cX5_delaysTogether 24 = .ok (.goto (-20), 3) := by decide +kernel
theorem dX5_delaysTogether_27 : decode cX5_delaysTogether 27 = .ok (.iload_n 2, 1) := by decide +kernel
theorem dX5_delaysTogether_28 : decode cX5_delaysTogether 28 = .ok (.ireturn, 1) := by decide +kernel
theorem dX6_init_0 : decode cX6_init 0 = .ok (.aload_n 0, 1) := by decide +kernel
theorem dX6_init_1 : decode cX6_init 1 = .ok (.invokespecial 3, 3) := by decide +kernel
theorem dX6_init_4 : decode cX6_init 4 = .ok (.aload_n 0, 1) := by decide +kernel
theorem dX6_init_5 : decode cX6_init 5 = .ok (.bipush 6, 2) := by decide +kernel
theorem dX6_init_7 : decode cX6_init 7 = .ok (.newarray .int, 2) := by decide +kernel
theorem dX6_init_9 : decode cX6_init 9 = .ok (.putfield 9, 3) := by decide +kernel
theorem dX6_init_12 : decode cX6_init 12 = .ok (.aload_n 0, 1) := by decide +kernel
theorem dX6_init_13 : decode cX6_init 13 = .ok (.bipush 6, 2) := by decide +kernel
theorem dX6_init_15 : decode cX6_init 15 = .ok (.newarray .int, 2) := by decide +kernel
theorem dX6_init_17 : decode cX6_init 17 = .ok (.putfield 15, 3) := by decide +kernel
theorem dX6_init_20 : decode cX6_init 20 = .ok (.aload_n 0, 1) := by decide +kernel
theorem dX6_init_21 : decode cX6_init 21 = .ok (.bipush 6, 2) := by decide +kernel
theorem dX6_init_23 : decode cX6_init 23 = .ok (.newarray .int, 2) := by decide +kernel
theorem dX6_init_25 : decode cX6_init 25 = .ok (.putfield 18, 3) := by decide +kernel
theorem dX6_init_28 : decode cX6_init 28 = .ok (.aload_n 0, 1) := by decide +kernel
theorem dX6_init_29 : decode cX6_init 29 = .ok (.iconst 0, 1) := by decide +kernel
theorem dX6_init_30 : decode cX6_init 30 = .ok (.putfield 21, 3) := by decide +kernel
theorem dX6_init_33 : decode cX6_init 33 = .ok (.return_, 1) := by decide +kernel
theorem dX6_add_0 : decode cX6_add 0 = .ok (.aload_n 0, 1) := by decide +kernel
theorem dX6_add_1 : decode cX6_add 1 = .ok (.getfield 21, 3) := by decide +kernel
theorem dX6_add_4 : decode cX6_add 4 = .ok (.bipush 6, 2) := by decide +kernel
theorem dX6_add_6 : decode cX6_add 6 = .ok (.if_icmp .ge 43, 3) := by decide +kernel
theorem dX6_add_9 : decode cX6_add 9 = .ok (.aload_n 0, 1) := by decide +kernel
theorem dX6_add_10 : decode cX6_add 10 = .ok (.getfield 9, 3) := by decide +kernel
theorem dX6_add_13 : decode cX6_add 13 = .ok (.aload_n 0, 1) := by decide +kernel
theorem dX6_add_14 : decode cX6_add 14 = .ok (.getfield 21, 3) := by decide +kernel
theorem dX6_add_17 : decode cX6_add 17 = .ok (.iload_n 1, 1) := by decide +kernel
theorem dX6_add_18 : decode cX6_add 18 = .ok (.iastore, 1) := by decide +kernel
theorem dX6_add_19 : decode cX6_add 19 = .ok (.aload_n 0, 1) := by decide +kernel
theorem dX6_add_20 : decode cX6_add 20 = .ok (.getfield 15, 3) := by decide +kernel
theorem dX6_add_23 : decode cX6_add 23 = .ok (.aload_n 0, 1) := by decide +kernel
theorem dX6_add_24 : decode cX6_add 24 = .ok (.getfield 21, 3) := by decide +kernel
theorem dX6_add_27 : decode cX6_add 27 = .ok (.iload_n 2, 1) := by decide +kernel
theorem dX6_add_28 : decode cX6_add 28 = .ok (.iastore, 1) := by decide +kernel
theorem dX6_add_29 : decode cX6_add 29 = .ok (.aload_n 0, 1) := by decide +kernel
theorem dX6_add_30 : decode cX6_add 30 = .ok (.getfield 18, 3) := by decide +kernel
theorem dX6_add_33 : decode cX6_add 33 = .ok (.aload_n 0, 1) := by decide +kernel
theorem dX6_add_34 : decode cX6_add 34 = .ok (.getfield 21, 3) := by decide +kernel
theorem dX6_add_37 : decode cX6_add 37 = .ok (.iload_n 3, 1) := by decide +kernel
theorem dX6_add_38 : decode cX6_add 38 = .ok (.iastore, 1) := by decide +kernel
theorem dX6_add_39 : decode cX6_add 39 = .ok (.aload_n 0, 1) := by decide +kernel
theorem dX6_add_40 : decode cX6_add 40 = .ok (.dup, 1) := by decide +kernel
theorem dX6_add_41 : decode cX6_add 41 = .ok (.getfield 21, 3) := by decide +kernel
theorem dX6_add_44 : decode cX6_add 44 = .ok (.iconst 1, 1) := by decide +kernel
theorem dX6_add_45 : decode cX6_add 45 = .ok (.iadd, 1) := by decide +kernel
theorem dX6_add_46 : decode cX6_add 46 = .ok (.putfield 21, 3) := by decide +kernel
theorem dX6_add_49 : decode cX6_add 49 = .ok (.return_, 1) := by decide +kernel
theorem dX7_init_0 : decode cX7_init 0 = .ok (.aload_n 0, 1) := by decide +kernel
theorem dX7_init_1 : decode cX7_init 1 = .ok (.invokespecial 3, 3) := by decide +kernel
theorem dX7_init_4 : decode cX7_init 4 = .ok (.aload_n 0, 1) := by decide +kernel
theorem dX7_init_5 : decode cX7_init 5 = .ok (.bipush 18, 2) := by decide +kernel
theorem dX7_init_7 : decode cX7_init 7 = .ok (.newarray .int, 2) := by decide +kernel
theorem dX7_init_9 : decode cX7_init 9 = .ok (.putfield 9, 3) := by decide +kernel
theorem dX7_init_12 : decode cX7_init 12 = .ok (.return_, 1) := by decide +kernel
theorem dX7_greatest_0 : decode cX7_greatest 0 = .ok (.iconst 0, 1) := by decide +kernel
theorem dX7_greatest_1 : decode cX7_greatest 1 = .ok (.istore 4, 2) := by decide +kernel
theorem dX7_greatest_3 : decode cX7_greatest 3 = .ok (.iload 4, 2) := by decide +kernel
theorem dX7_greatest_5 : decode cX7_greatest 5 = .ok (.aload_n 1, 1) := by decide +kernel
theorem dX7_greatest_6 : decode cX7_greatest 6 = .ok (.getfield 15, 3) := by decide +kernel
theorem dX7_greatest_9 : decode cX7_greatest 9 = .ok (.if_icmp .ge 17, 3) := by decide +kernel
theorem dX7_greatest_12 : decode cX7_greatest 12 = .ok (.aload_n 0, 1) := by decide +kernel
theorem dX7_greatest_13 : decode cX7_greatest 13 = .ok (.getfield 9, 3) := by decide +kernel
theorem dX7_greatest_16 : decode cX7_greatest 16 = .ok (.iload 4, 2) := by decide +kernel
theorem dX7_greatest_18 : decode cX7_greatest 18 = .ok (.iconst 0, 1) := by decide +kernel
theorem dX7_greatest_19 : decode cX7_greatest 19 = .ok (.iastore, 1) := by decide +kernel
theorem dX7_greatest_20 : decode cX7_greatest 20 = .ok (.iinc 4 1, 3) := by decide +kernel
theorem dX7_greatest_23 : decode cX7_greatest 23 = .ok (.goto (-20), 3) := by decide +kernel
theorem dX7_greatest_26 : decode cX7_greatest 26 = .ok (.iconst 0, 1) := by decide +kernel
theorem dX7_greatest_27 : decode cX7_greatest 27 = .ok (.istore 4, 2) := by decide +kernel
theorem dX7_greatest_29 : decode cX7_greatest 29 = .ok (.iconst 0, 1) := by decide +kernel
theorem dX7_greatest_30 : decode cX7_greatest 30 = .ok (.istore 5, 2) := by decide +kernel
theorem dX7_greatest_32 : decode cX7_greatest 32 = .ok (.iload 5, 2) := by decide +kernel
theorem dX7_greatest_34 : decode cX7_greatest 34 = .ok (.aload_n 1, 1) := by decide +kernel
theorem dX7_greatest_35 : decode cX7_greatest 35 = .ok (.getfield 21, 3) := by decide +kernel
theorem dX7_greatest_38 : decode cX7_greatest 38 = .ok (.if_icmp .ge 94, 3) := by decide +kernel
theorem dX7_greatest_41 : decode cX7_greatest 41 = .ok (.aload_n 0, 1) := by decide +kernel
theorem dX7_greatest_42 : decode cX7_greatest 42 = .ok (.getfield 9, 3) := by decide +kernel
theorem dX7_greatest_45 : decode cX7_greatest 45 = .ok (.aload_n 1, 1) := by decide +kernel
theorem dX7_greatest_46 : decode cX7_greatest 46 = .ok (.getfield 24, 3) := by decide +kernel
theorem dX7_greatest_49 : decode cX7_greatest 49 = .ok (.iload 5, 2) := by decide +kernel
theorem dX7_greatest_51 : decode cX7_greatest 51 = .ok (.iaload, 1) := by decide +kernel
theorem dX7_greatest_52 : decode cX7_greatest 52 = .ok (.iaload, 1) := by decide +kernel
theorem dX7_greatest_53 : decode cX7_greatest 53 = .ok (.istore 6, 2) := by decide +kernel
theorem dX7_greatest_55 : decode cX7_greatest 55 = .ok (.aload_n 1, 1) := by decide +kernel
theorem dX7_greatest_56 : decode cX7_greatest 56 = .ok (.getfield 27, 3) := by decide +kernel
theorem dX7_greatest_59 : decode cX7_greatest 59 = .ok (.iload 5, 2) := by decide +kernel
theorem dX7_greatest_61 : decode cX7_greatest 61 = .ok (.iaload, 1) := by decide +kernel
theorem dX7_greatest_62 : decode cX7_greatest 62 = .ok (.bipush (-9), 2) := by decide +kernel
theorem dX7_greatest_64 : decode cX7_greatest 64 = .ok (.if_icmp .ne 8, 3) := by decide +kernel
theorem dX7_greatest_67 : decode cX7_greatest 67 = .ok (.iload 6, 2) := by decide +kernel
theorem dX7_greatest_69 : decode cX7_greatest 69 = .ok (.goto 15, 3) := by decide +kernel
theorem dX7_greatest_72 : decode cX7_greatest 72 = .ok (.aload_n 0, 1) := by decide +kernel
theorem dX7_greatest_73 : decode cX7_greatest 73 = .ok (.getfield 9, 3) := by decide +kernel
theorem dX7_greatest_76 : decode cX7_greatest 76 = .ok (.aload_n 1, 1) := by decide +kernel
theorem dX7_greatest_77 : decode cX7_greatest 77 = .ok (.getfield 27, 3) := by decide +kernel
theorem dX7_greatest_80 : decode cX7_greatest 80 = .ok (.iload 5, 2) := by decide +kernel
theorem dX7_greatest_82 : decode cX7_greatest 82 = .ok (.iaload, 1) := by decide +kernel
theorem dX7_greatest_83 : decode cX7_greatest 83 = .ok (.iaload, 1) := by decide +kernel
theorem dX7_greatest_84 : decode cX7_greatest 84 = .ok (.istore 7, 2) := by decide +kernel
theorem dX7_greatest_86 : decode cX7_greatest 86 = .ok (.iload 6, 2) := by decide +kernel
theorem dX7_greatest_88 : decode cX7_greatest 88 = .ok (.iload 7, 2) := by decide +kernel
theorem dX7_greatest_90 : decode cX7_greatest 90 = .ok (.invokestatic 30, 3) := by decide +kernel
theorem dX7_greatest_93 : decode cX7_greatest 93 = .ok (.iload_n 3, 1) := by decide +kernel
theorem dX7_greatest_94 : decode cX7_greatest 94 = .ok (.iload 5, 2) := by decide +kernel
theorem dX7_greatest_96 : decode cX7_greatest 96 = .ok (.ishr, 1) := by decide +kernel
theorem dX7_greatest_97 : decode cX7_greatest 97 = .ok (.iconst 1, 1) := by decide +kernel
theorem dX7_greatest_98 : decode cX7_greatest 98 = .ok (.iand, 1) := by decide +kernel
theorem dX7_greatest_99 : decode cX7_greatest 99 = .ok (.iconst 1, 1) := by decide +kernel
theorem dX7_greatest_100 : decode cX7_greatest 100 = .ok (.if_icmp .ne 10, 3) := by decide +kernel
theorem dX7_greatest_103 : decode cX7_greatest 103 = .ok (.aload_n 2, 1) := by decide +kernel
theorem dX7_greatest_104 : decode cX7_greatest 104 = .ok (.iload 5, 2) := by decide +kernel
theorem dX7_greatest_106 : decode cX7_greatest 106 = .ok (.iaload, 1) := by decide +kernel
theorem dX7_greatest_107 : decode cX7_greatest 107 = .ok (.goto 4, 3) := by decide +kernel
theorem dX7_greatest_110 : decode cX7_greatest 110 = .ok (.iconst 0, 1) := by decide +kernel
theorem dX7_greatest_111 : decode cX7_greatest 111 = .ok (.iadd, 1) := by decide +kernel
theorem dX7_greatest_112 : decode cX7_greatest 112 = .ok (.istore 4, 2) := by decide +kernel
theorem dX7_greatest_114 : decode cX7_greatest 114 = .ok (.aload_n 0, 1) := by decide +kernel
theorem dX7_greatest_115 : decode cX7_greatest 115 = .ok (.getfield 9, 3) := by decide +kernel
theorem dX7_greatest_118 : decode cX7_greatest 118 = .ok (.bipush 10, 2) := by decide +kernel
theorem dX7_greatest_120 : decode cX7_greatest 120 = .ok (.iload 5, 2) := by decide +kernel
theorem dX7_greatest_122 : decode cX7_greatest 122 = .ok (.iadd, 1) := by decide +kernel
theorem dX7_greatest_123 : decode cX7_greatest 123 = .ok (.iload 4, 2) := by decide +kernel
theorem dX7_greatest_125 : decode cX7_greatest 125 = .ok (.iastore, 1) := by decide +kernel
theorem dX7_greatest_126 : decode cX7_greatest 126 = .ok (.iinc 5 1, 3) := by decide +kernel
theorem dX7_greatest_129 : decode cX7_greatest 129 = .ok (.goto (-97), 3) := by decide +kernel
theorem dX7_greatest_132 : decode cX7_greatest 132 = .ok (.iload 4, 2) := by decide +kernel
theorem dX7_greatest_134 : decode cX7_greatest 134 = .ok (.ireturn, 1) := by decide +kernel
theorem dX8_init_0 : decode cX8_init 0 = .ok (.aload_n 0, 1) := by decide +kernel
theorem dX8_init_1 : decode cX8_init 1 = .ok (.invokespecial 3, 3) := by decide +kernel
theorem dX8_init_4 : decode cX8_init 4 = .ok (.aload_n 0, 1) := by decide +kernel
theorem dX8_init_5 : decode cX8_init 5 = .ok (.bipush 18, 2) := by decide +kernel
theorem dX8_init_7 : decode cX8_init 7 = .ok (.newarray .long, 2) := by decide +kernel
theorem dX8_init_9 : decode cX8_init 9 = .ok (.putfield 9, 3) := by decide +kernel
theorem dX8_init_12 : decode cX8_init 12 = .ok (.aload_n 0, 1) := by decide +kernel
theorem dX8_init_13 : decode cX8_init 13 = .ok (.bipush 18, 2) := by decide +kernel
theorem dX8_init_15 : decode cX8_init 15 = .ok (.newarray .long, 2) := by decide +kernel
theorem dX8_init_17 : decode cX8_init 17 = .ok (.putfield 15, 3) := by decide +kernel
theorem dX8_init_20 : decode cX8_init 20 = .ok (.aload_n 0, 1) := by decide +kernel
theorem dX8_init_21 : decode cX8_init 21 = .ok (.bipush 18, 2) := by decide +kernel
theorem dX8_init_23 : decode cX8_init 23 = .ok (.newarray .long, 2) := by decide +kernel
theorem dX8_init_25 : decode cX8_init 25 = .ok (.putfield 18, 3) := by decide +kernel
theorem dX8_init_28 : decode cX8_init 28 = .ok (.aload_n 0, 1) := by decide +kernel
theorem dX8_init_29 : decode cX8_init 29 = .ok (.bipush 18, 2) := by decide +kernel
theorem dX8_init_31 : decode cX8_init 31 = .ok (.newarray .long, 2) := by decide +kernel
theorem dX8_init_33 : decode cX8_init 33 = .ok (.putfield 21, 3) := by decide +kernel
theorem dX8_init_36 : decode cX8_init 36 = .ok (.return_, 1) := by decide +kernel
set_option maxRecDepth 20000 in
theorem ggX8_run_X8_made : GoodIn wsX8_run wsX8_made := goodIn_r _ [12, 13] (by decide +kernel) (by decide +kernel)
set_option maxRecDepth 20000 in
theorem gX8_run_X8_made : GoodIn wsX8_run (va_wsS RX8 40 yX8_made wsX8_made) := goodIn_app (goodIn_of _ (by decide +kernel)) ggX8_run_X8_made
set_option maxRecDepth 20000 in
theorem ggX8_run_X8_lowLater : GoodIn wsX8_run wsX8_lowLater := goodIn_r _ [17, 4, 2, 33, 34, 35, 36] (by decide +kernel) (by decide +kernel)
set_option maxRecDepth 20000 in
theorem gX8_run_X8_lowLater : GoodIn wsX8_run (wsV RX8 44 RX8 yX8_lowLater wsX8_lowLater) := goodIn_app (goodIn_of _ (by decide +kernel)) ggX8_run_X8_lowLater
set_option maxRecDepth 20000 in
theorem ggX8_run_X8_highLater : GoodIn wsX8_run wsX8_highLater := goodIn_r _ [21, 5, 4, 33, 34, 35, 36] (by decide +kernel) (by decide +kernel)
set_option maxRecDepth 20000 in
theorem gX8_run_X8_highLater : GoodIn wsX8_run (wsV RX8 48 RX8 yX8_highLater wsX8_highLater) := goodIn_app (goodIn_of _ (by decide +kernel)) ggX8_run_X8_highLater
theorem dX8_run_0 : decode cX8_run 0 = .ok (.iconst 0, 1) := by decide +kernel
theorem dX8_run_1 : decode cX8_run 1 = .ok (.istore 5, 2) := by decide +kernel
theorem dX8_run_3 : decode cX8_run 3 = .ok (.iload 5, 2) := by decide +kernel
theorem dX8_run_5 : decode cX8_run 5 = .ok (.aload_n 1, 1) := by decide +kernel
theorem dX8_run_6 : decode cX8_run 6 = .ok (.getfield 24, 3) := by decide +kernel
theorem dX8_run_9 : decode cX8_run 9 = .ok (.if_icmp .ge 71, 3) := by decide +kernel
theorem dX8_run_12 : decode cX8_run 12 = .ok (.aload_n 0, 1) := by decide +kernel
theorem dX8_run_13 : decode cX8_run 13 = .ok (.getfield 9, 3) := by decide +kernel
theorem dX8_run_16 : decode cX8_run 16 = .ok (.iload 5, 2) := by decide +kernel
theorem dX8_run_18 : decode cX8_run 18 = .ok (.iload 4, 2) := by decide +kernel
theorem dX8_run_20 : decode cX8_run 20 = .ok (.iconst 4, 1) := by decide +kernel
theorem dX8_run_21 : decode cX8_run 21 = .ok (.iload 5, 2) := by decide +kernel
theorem dX8_run_23 : decode cX8_run 23 = .ok (.iadd, 1) := by decide +kernel
theorem dX8_run_24 : decode cX8_run 24 = .ok (.ishr, 1) := by decide +kernel
theorem dX8_run_25 : decode cX8_run 25 = .ok (.iconst 1, 1) := by decide +kernel
theorem dX8_run_26 : decode cX8_run 26 = .ok (.iand, 1) := by decide +kernel
theorem dX8_run_27 : decode cX8_run 27 = .ok (.i2l, 1) := by decide +kernel
theorem dX8_run_28 : decode cX8_run 28 = .ok (.lneg, 1) := by decide +kernel
theorem dX8_run_29 : decode cX8_run 29 = .ok (.lastore, 1) := by decide +kernel
theorem dX8_run_30 : decode cX8_run 30 = .ok (.aload_n 0, 1) := by decide +kernel
theorem dX8_run_31 : decode cX8_run 31 = .ok (.getfield 15, 3) := by decide +kernel
theorem dX8_run_34 : decode cX8_run 34 = .ok (.iload 5, 2) := by decide +kernel
theorem dX8_run_36 : decode cX8_run 36 = .ok (.iload 4, 2) := by decide +kernel
theorem dX8_run_38 : decode cX8_run 38 = .ok (.iload 5, 2) := by decide +kernel
theorem dX8_run_40 : decode cX8_run 40 = .ok (.ishr, 1) := by decide +kernel
theorem dX8_run_41 : decode cX8_run 41 = .ok (.iconst 1, 1) := by decide +kernel
theorem dX8_run_42 : decode cX8_run 42 = .ok (.iand, 1) := by decide +kernel
theorem dX8_run_43 : decode cX8_run 43 = .ok (.i2l, 1) := by decide +kernel
theorem dX8_run_44 : decode cX8_run 44 = .ok (.lneg, 1) := by decide +kernel
theorem dX8_run_45 : decode cX8_run 45 = .ok (.lastore, 1) := by decide +kernel
theorem dX8_run_46 : decode cX8_run 46 = .ok (.aload_n 0, 1) := by decide +kernel
theorem dX8_run_47 : decode cX8_run 47 = .ok (.getfield 18, 3) := by decide +kernel
theorem dX8_run_50 : decode cX8_run 50 = .ok (.iload 5, 2) := by decide +kernel
theorem dX8_run_52 : decode cX8_run 52 = .ok (.aload_n 0, 1) := by decide +kernel
theorem dX8_run_53 : decode cX8_run 53 = .ok (.getfield 15, 3) := by decide +kernel
theorem dX8_run_56 : decode cX8_run 56 = .ok (.iload 5, 2) := by decide +kernel
theorem dX8_run_58 : decode cX8_run 58 = .ok (.laload, 1) := by decide +kernel
theorem dX8_run_59 : decode cX8_run 59 = .ok (.lastore, 1) := by decide +kernel
theorem dX8_run_60 : decode cX8_run 60 = .ok (.aload_n 0, 1) := by decide +kernel
theorem dX8_run_61 : decode cX8_run 61 = .ok (.getfield 21, 3) := by decide +kernel
theorem dX8_run_64 : decode cX8_run 64 = .ok (.iload 5, 2) := by decide +kernel
theorem dX8_run_66 : decode cX8_run 66 = .ok (.aload_n 0, 1) := by decide +kernel
theorem dX8_run_67 : decode cX8_run 67 = .ok (.getfield 15, 3) := by decide +kernel
theorem dX8_run_70 : decode cX8_run 70 = .ok (.iload 5, 2) := by decide +kernel
theorem dX8_run_72 : decode cX8_run 72 = .ok (.laload, 1) := by decide +kernel
theorem dX8_run_73 : decode cX8_run 73 = .ok (.lastore, 1) := by decide +kernel
theorem dX8_run_74 : decode cX8_run 74 = .ok (.iinc 5 1, 3) := by decide +kernel
theorem dX8_run_77 : decode cX8_run 77 = .ok (.goto (-74), 3) := by decide +kernel
theorem dX8_run_80 : decode cX8_run 80 = .ok (.iconst 0, 1) := by decide +kernel
theorem dX8_run_81 : decode cX8_run 81 = .ok (.istore 5, 2) := by decide +kernel
theorem dX8_run_83 : decode cX8_run 83 = .ok (.iload 5, 2) := by decide +kernel
theorem dX8_run_85 : decode cX8_run 85 = .ok (.aload_n 1, 1) := by decide +kernel
theorem dX8_run_86 : decode cX8_run 86 = .ok (.getfield 30, 3) := by decide +kernel
theorem dX8_run_89 : decode cX8_run 89 = .ok (.if_icmp .ge 169, 3) := by decide +kernel
theorem dX8_run_92 : decode cX8_run 92 = .ok (.aload_n 1, 1) := by decide +kernel
theorem dX8_run_93 : decode cX8_run 93 = .ok (.getfield 33, 3) := by decide +kernel
theorem dX8_run_96 : decode cX8_run 96 = .ok (.iload 5, 2) := by decide +kernel
theorem dX8_run_98 : decode cX8_run 98 = .ok (.iaload, 1) := by decide +kernel
theorem dX8_run_99 : decode cX8_run 99 = .ok (.istore 6, 2) := by decide +kernel
theorem dX8_run_101 : decode cX8_run 101 = .ok (.aload_n 2, 1) := by decide +kernel
theorem dX8_run_102 : decode cX8_run 102 = .ok (.iload 5, 2) := by decide +kernel
theorem dX8_run_104 : decode cX8_run 104 = .ok (.iaload, 1) := by decide +kernel
theorem dX8_run_105 : decode cX8_run 105 = .ok (.iconst 4, 1) := by decide +kernel
theorem dX8_run_106 : decode cX8_run 106 = .ok (.if_icmp .ne 8, 3) := by decide +kernel
theorem dX8_run_109 : decode cX8_run 109 = .ok (.iload 6, 2) := by decide +kernel
theorem dX8_run_111 : decode cX8_run 111 = .ok (.goto 10, 3) := by decide +kernel
theorem dX8_run_114 : decode cX8_run 114 = .ok (.aload_n 1, 1) := by decide +kernel
theorem dX8_run_115 : decode cX8_run 115 = .ok (.getfield 37, 3) := by decide +kernel
theorem dX8_run_118 : decode cX8_run 118 = .ok (.iload 5, 2) := by decide +kernel
theorem dX8_run_120 : decode cX8_run 120 = .ok (.iaload, 1) := by decide +kernel
theorem dX8_run_121 : decode cX8_run 121 = .ok (.istore 7, 2) := by decide +kernel
theorem dX8_run_123 : decode cX8_run 123 = .ok (.bipush 10, 2) := by decide +kernel
theorem dX8_run_125 : decode cX8_run 125 = .ok (.iload 5, 2) := by decide +kernel
theorem dX8_run_127 : decode cX8_run 127 = .ok (.iadd, 1) := by decide +kernel
theorem dX8_run_128 : decode cX8_run 128 = .ok (.istore 8, 2) := by decide +kernel
theorem dX8_run_130 : decode cX8_run 130 = .ok (.aload_n 3, 1) := by decide +kernel
theorem dX8_run_131 : decode cX8_run 131 = .ok (.iload 5, 2) := by decide +kernel
theorem dX8_run_133 : decode cX8_run 133 = .ok (.iaload, 1) := by decide +kernel
theorem dX8_run_134 : decode cX8_run 134 = .ok (.istore 9, 2) := by decide +kernel
theorem dX8_run_136 : decode cX8_run 136 = .ok (.aload_n 0, 1) := by decide +kernel
theorem dX8_run_137 : decode cX8_run 137 = .ok (.getfield 9, 3) := by decide +kernel
theorem dX8_run_140 : decode cX8_run 140 = .ok (.iload 8, 2) := by decide +kernel
theorem dX8_run_142 : decode cX8_run 142 = .ok (.aload_n 2, 1) := by decide +kernel
theorem dX8_run_143 : decode cX8_run 143 = .ok (.iload 5, 2) := by decide +kernel
theorem dX8_run_145 : decode cX8_run 145 = .ok (.iaload, 1) := by decide +kernel
theorem dX8_run_146 : decode cX8_run 146 = .ok (.aload_n 0, 1) := by decide +kernel
theorem dX8_run_147 : decode cX8_run 147 = .ok (.getfield 9, 3) := by decide +kernel
theorem dX8_run_150 : decode cX8_run 150 = .ok (.iload 6, 2) := by decide +kernel
theorem dX8_run_152 : decode cX8_run 152 = .ok (.laload, 1) := by decide +kernel
theorem dX8_run_153 : decode cX8_run 153 = .ok (.aload_n 0, 1) := by decide +kernel
theorem dX8_run_154 : decode cX8_run 154 = .ok (.getfield 9, 3) := by decide +kernel
theorem dX8_run_157 : decode cX8_run 157 = .ok (.iload 7, 2) := by decide +kernel
theorem dX8_run_159 : decode cX8_run 159 = .ok (.laload, 1) := by decide +kernel
theorem dX8_run_160 : decode cX8_run 160 = .ok (.invokestatic 40, 3) := by decide +kernel
theorem dX8_run_163 : decode cX8_run 163 = .ok (.lastore, 1) := by decide +kernel
theorem dX8_run_164 : decode cX8_run 164 = .ok (.aload_n 0, 1) := by decide +kernel
theorem dX8_run_165 : decode cX8_run 165 = .ok (.getfield 15, 3) := by decide +kernel
theorem dX8_run_168 : decode cX8_run 168 = .ok (.iload 8, 2) := by decide +kernel
theorem dX8_run_170 : decode cX8_run 170 = .ok (.aload_n 2, 1) := by decide +kernel
theorem dX8_run_171 : decode cX8_run 171 = .ok (.iload 5, 2) := by decide +kernel
theorem dX8_run_173 : decode cX8_run 173 = .ok (.iaload, 1) := by decide +kernel
theorem dX8_run_174 : decode cX8_run 174 = .ok (.aload_n 0, 1) := by decide +kernel
theorem dX8_run_175 : decode cX8_run 175 = .ok (.getfield 15, 3) := by decide +kernel
theorem dX8_run_178 : decode cX8_run 178 = .ok (.iload 6, 2) := by decide +kernel
theorem dX8_run_180 : decode cX8_run 180 = .ok (.laload, 1) := by decide +kernel
theorem dX8_run_181 : decode cX8_run 181 = .ok (.aload_n 0, 1) := by decide +kernel
theorem dX8_run_182 : decode cX8_run 182 = .ok (.getfield 15, 3) := by decide +kernel
theorem dX8_run_185 : decode cX8_run 185 = .ok (.iload 7, 2) := by decide +kernel
theorem dX8_run_187 : decode cX8_run 187 = .ok (.laload, 1) := by decide +kernel
theorem dX8_run_188 : decode cX8_run 188 = .ok (.invokestatic 40, 3) := by decide +kernel
theorem dX8_run_191 : decode cX8_run 191 = .ok (.lastore, 1) := by decide +kernel
theorem dX8_run_192 : decode cX8_run 192 = .ok (.aload_n 0, 1) := by decide +kernel
theorem dX8_run_193 : decode cX8_run 193 = .ok (.getfield 18, 3) := by decide +kernel
theorem dX8_run_196 : decode cX8_run 196 = .ok (.iload 8, 2) := by decide +kernel
theorem dX8_run_198 : decode cX8_run 198 = .ok (.aload_n 2, 1) := by decide +kernel
theorem dX8_run_199 : decode cX8_run 199 = .ok (.iload 5, 2) := by decide +kernel
theorem dX8_run_201 : decode cX8_run 201 = .ok (.iaload, 1) := by decide +kernel
theorem dX8_run_202 : decode cX8_run 202 = .ok (.aload_n 0, 1) := by decide +kernel
theorem dX8_run_203 : decode cX8_run 203 = .ok (.iload 6, 2) := by decide +kernel
theorem dX8_run_205 : decode cX8_run 205 = .ok (.iload 9, 2) := by decide +kernel
theorem dX8_run_207 : decode cX8_run 207 = .ok (.invokevirtual 44, 3) := by decide +kernel
theorem dX8_run_210 : decode cX8_run 210 = .ok (.aload_n 0, 1) := by decide +kernel
theorem dX8_run_211 : decode cX8_run 211 = .ok (.iload 7, 2) := by decide +kernel
theorem dX8_run_213 : decode cX8_run 213 = .ok (.iload 9, 2) := by decide +kernel
theorem dX8_run_215 : decode cX8_run 215 = .ok (.invokevirtual 44, 3) := by decide +kernel
theorem dX8_run_218 : decode cX8_run 218 = .ok (.invokestatic 40, 3) := by decide +kernel
theorem dX8_run_221 : decode cX8_run 221 = .ok (.lastore, 1) := by decide +kernel
theorem dX8_run_222 : decode cX8_run 222 = .ok (.aload_n 0, 1) := by decide +kernel
theorem dX8_run_223 : decode cX8_run 223 = .ok (.getfield 21, 3) := by decide +kernel
theorem dX8_run_226 : decode cX8_run 226 = .ok (.iload 8, 2) := by decide +kernel
theorem dX8_run_228 : decode cX8_run 228 = .ok (.aload_n 2, 1) := by decide +kernel
theorem dX8_run_229 : decode cX8_run 229 = .ok (.iload 5, 2) := by decide +kernel
theorem dX8_run_231 : decode cX8_run 231 = .ok (.iaload, 1) := by decide +kernel
theorem dX8_run_232 : decode cX8_run 232 = .ok (.aload_n 0, 1) := by decide +kernel
theorem dX8_run_233 : decode cX8_run 233 = .ok (.iload 6, 2) := by decide +kernel
theorem dX8_run_235 : decode cX8_run 235 = .ok (.iload 9, 2) := by decide +kernel
theorem dX8_run_237 : decode cX8_run 237 = .ok (.invokevirtual 48, 3) := by decide +kernel
theorem dX8_run_240 : decode cX8_run 240 = .ok (.aload_n 0, 1) := by decide +kernel
theorem dX8_run_241 : decode cX8_run 241 = .ok (.iload 7, 2) := by decide +kernel
theorem dX8_run_243 : decode cX8_run 243 = .ok (.iload 9, 2) := by decide +kernel
theorem dX8_run_245 : decode cX8_run 245 = .ok (.invokevirtual 48, 3) := by decide +kernel
theorem dX8_run_248 : decode cX8_run 248 = .ok (.invokestatic 40, 3) := by decide +kernel
theorem dX8_run_251 : decode cX8_run 251 = .ok (.lastore, 1) := by decide +kernel
theorem dX8_run_252 : decode cX8_run 252 = .ok (.iinc 5 1, 3) := by decide +kernel
theorem dX8_run_255 : decode cX8_run 255 = .ok (.goto (-172), 3) := by decide +kernel
theorem dX8_run_258 : decode cX8_run 258 = .ok (.return_, 1) := by decide +kernel
theorem dX8_lowLater_0 : decode cX8_lowLater 0 = .ok (.aload_n 0, 1) := by decide +kernel
theorem dX8_lowLater_1 : decode cX8_lowLater 1 = .ok (.getfield 18, 3) := by decide +kernel
theorem dX8_lowLater_4 : decode cX8_lowLater 4 = .ok (.iload_n 1, 1) := by decide +kernel
theorem dX8_lowLater_5 : decode cX8_lowLater 5 = .ok (.laload, 1) := by decide +kernel
theorem dX8_lowLater_6 : decode cX8_lowLater 6 = .ok (.iload_n 2, 1) := by decide +kernel
theorem dX8_lowLater_7 : decode cX8_lowLater 7 = .ok (.lshl, 1) := by decide +kernel
theorem dX8_lowLater_8 : decode cX8_lowLater 8 = .ok (.aload_n 0, 1) := by decide +kernel
theorem dX8_lowLater_9 : decode cX8_lowLater 9 = .ok (.getfield 9, 3) := by decide +kernel
theorem dX8_lowLater_12 : decode cX8_lowLater 12 = .ok (.iload_n 1, 1) := by decide +kernel
theorem dX8_lowLater_13 : decode cX8_lowLater 13 = .ok (.laload, 1) := by decide +kernel
theorem dX8_lowLater_14 : decode cX8_lowLater 14 = .ok (.bipush 64, 2) := by decide +kernel
theorem dX8_lowLater_16 : decode cX8_lowLater 16 = .ok (.iload_n 2, 1) := by decide +kernel
theorem dX8_lowLater_17 : decode cX8_lowLater 17 = .ok (.isub, 1) := by decide +kernel
theorem dX8_lowLater_18 : decode cX8_lowLater 18 = .ok (.lushr, 1) := by decide +kernel
theorem dX8_lowLater_19 : decode cX8_lowLater 19 = .ok (.lor, 1) := by decide +kernel
theorem dX8_lowLater_20 : decode cX8_lowLater 20 = .ok (.lreturn, 1) := by decide +kernel
theorem dX8_highLater_0 : decode cX8_highLater 0 = .ok (.aload_n 0, 1) := by decide +kernel
theorem dX8_highLater_1 : decode cX8_highLater 1 = .ok (.getfield 21, 3) := by decide +kernel
theorem dX8_highLater_4 : decode cX8_highLater 4 = .ok (.iload_n 1, 1) := by decide +kernel
theorem dX8_highLater_5 : decode cX8_highLater 5 = .ok (.laload, 1) := by decide +kernel
theorem dX8_highLater_6 : decode cX8_highLater 6 = .ok (.iload_n 2, 1) := by decide +kernel
theorem dX8_highLater_7 : decode cX8_highLater 7 = .ok (.lshl, 1) := by decide +kernel
theorem dX8_highLater_8 : decode cX8_highLater 8 = .ok (.aload_n 0, 1) := by decide +kernel
theorem dX8_highLater_9 : decode cX8_highLater 9 = .ok (.getfield 18, 3) := by decide +kernel
theorem dX8_highLater_12 : decode cX8_highLater 12 = .ok (.iload_n 1, 1) := by decide +kernel
theorem dX8_highLater_13 : decode cX8_highLater 13 = .ok (.laload, 1) := by decide +kernel
theorem dX8_highLater_14 : decode cX8_highLater 14 = .ok (.bipush 64, 2) := by decide +kernel
theorem dX8_highLater_16 : decode cX8_highLater 16 = .ok (.iload_n 2, 1) := by decide +kernel
theorem dX8_highLater_17 : decode cX8_highLater 17 = .ok (.isub, 1) := by decide +kernel
theorem dX8_highLater_18 : decode cX8_highLater 18 = .ok (.lushr, 1) := by decide +kernel
theorem dX8_highLater_19 : decode cX8_highLater 19 = .ok (.lor, 1) := by decide +kernel
theorem dX8_highLater_20 : decode cX8_highLater 20 = .ok (.lreturn, 1) := by decide +kernel
theorem dX8_made_0 : decode cX8_made 0 = .ok (.iload_n 0, 1) := by decide +kernel
theorem dX8_made_1 : decode cX8_made 1 = .ok (.tableswitch 55 0 3 #[31, 35, 39, 47], 31) := by decide +kernel
theorem dX8_made_32 : decode cX8_made 32 = .ok (.lload_n 1, 1) := by decide +kernel
theorem dX8_made_33 : decode cX8_made 33 = .ok (.lload_n 3, 1) := by decide +kernel
theorem dX8_made_34 : decode cX8_made 34 = .ok (.land, 1) := by decide +kernel
theorem dX8_made_35 : decode cX8_made 35 = .ok (.lreturn, 1) := by decide +kernel
theorem dX8_made_36 : decode cX8_made 36 = .ok (.lload_n 1, 1) := by decide +kernel
theorem dX8_made_37 : decode cX8_made 37 = .ok (.lload_n 3, 1) := by decide +kernel
theorem dX8_made_38 : decode cX8_made 38 = .ok (.lor, 1) := by decide +kernel
theorem dX8_made_39 : decode cX8_made 39 = .ok (.lreturn, 1) := by decide +kernel
theorem dX8_made_40 : decode cX8_made 40 = .ok (.lload_n 1, 1) := by decide +kernel
theorem dX8_made_41 : decode cX8_made 41 = .ok (.lload_n 3, 1) := by decide +kernel
theorem dX8_made_42 : decode cX8_made 42 = .ok (.land, 1) := by decide +kernel
theorem dX8_made_43 : decode cX8_made 43 = .ok (.ldc2_w 51, 3) := by decide +kernel
theorem dX8_made_46 : decode cX8_made 46 = .ok (.lxor, 1) := by decide +kernel
theorem dX8_made_47 : decode cX8_made 47 = .ok (.lreturn, 1) := by decide +kernel
theorem dX8_made_48 : decode cX8_made 48 = .ok (.lload_n 1, 1) := by decide +kernel
theorem dX8_made_49 : decode cX8_made 49 = .ok (.lload_n 3, 1) := by decide +kernel
theorem dX8_made_50 : decode cX8_made 50 = .ok (.lor, 1) := by decide +kernel
theorem dX8_made_51 : decode cX8_made 51 = .ok (.ldc2_w 51, 3) := by decide +kernel
theorem dX8_made_54 : decode cX8_made 54 = .ok (.lxor, 1) := by decide +kernel
theorem dX8_made_55 : decode cX8_made 55 = .ok (.lreturn, 1) := by decide +kernel
theorem dX8_made_56 : decode cX8_made 56 = .ok (.lload_n 1, 1) := by decide +kernel
theorem dX8_made_57 : decode cX8_made 57 = .ok (.ldc2_w 51, 3) := by decide +kernel
theorem dX8_made_60 : decode cX8_made 60 = .ok (.lxor, 1) := by decide +kernel
theorem dX8_made_61 : decode cX8_made 61 = .ok (.lreturn, 1) := by decide +kernel
theorem dX8_at_0 : decode cX8_at 0 = .ok (.iload_n 2, 1) := by decide +kernel
theorem dX8_at_1 : decode cX8_at 1 = .ok (.bipush 64, 2) := by decide +kernel
theorem dX8_at_3 : decode cX8_at 3 = .ok (.if_icmp .ge 14, 3) := by decide +kernel
theorem dX8_at_6 : decode cX8_at 6 = .ok (.aload_n 0, 1) := by decide +kernel
theorem dX8_at_7 : decode cX8_at 7 = .ok (.getfield 18, 3) := by decide +kernel
theorem dX8_at_10 : decode cX8_at 10 = .ok (.iload_n 1, 1) := by decide +kernel
theorem dX8_at_11 : decode cX8_at 11 = .ok (.laload, 1) := by decide +kernel
theorem dX8_at_12 : decode cX8_at 12 = .ok (.iload_n 2, 1) := by decide +kernel
theorem dX8_at_13 : decode cX8_at 13 = .ok (.lushr, 1) := by decide +kernel
theorem dX8_at_14 : decode cX8_at 14 = .ok (.goto 14, 3) := by decide +kernel
theorem dX8_at_17 : decode cX8_at 17 = .ok (.aload_n 0, 1) := by decide +kernel
theorem dX8_at_18 : decode cX8_at 18 = .ok (.getfield 21, 3) := by decide +kernel
theorem dX8_at_21 : decode cX8_at 21 = .ok (.iload_n 1, 1) := by decide +kernel
theorem dX8_at_22 : decode cX8_at 22 = .ok (.laload, 1) := by decide +kernel
theorem dX8_at_23 : decode cX8_at 23 = .ok (.iload_n 2, 1) := by decide +kernel
theorem dX8_at_24 : decode cX8_at 24 = .ok (.bipush 64, 2) := by decide +kernel
theorem dX8_at_26 : decode cX8_at 26 = .ok (.isub, 1) := by decide +kernel
theorem dX8_at_27 : decode cX8_at 27 = .ok (.lushr, 1) := by decide +kernel
theorem dX8_at_28 : decode cX8_at 28 = .ok (.lstore_n 3, 1) := by decide +kernel
theorem dX8_at_29 : decode cX8_at 29 = .ok (.lload_n 3, 1) := by decide +kernel
theorem dX8_at_30 : decode cX8_at 30 = .ok (.lconst 1, 1) := by decide +kernel
theorem dX8_at_31 : decode cX8_at 31 = .ok (.land, 1) := by decide +kernel
theorem dX8_at_32 : decode cX8_at 32 = .ok (.l2i, 1) := by decide +kernel
theorem dX8_at_33 : decode cX8_at 33 = .ok (.ireturn, 1) := by decide +kernel
set_option maxRecDepth 20000 in
theorem ggX8_isLate_X8_at : GoodIn wsX8_isLate wsX8_at := goodIn_r _ [7, 8, 9, 21, 22, 23, 24] (by decide +kernel) (by decide +kernel)
set_option maxRecDepth 20000 in
theorem gX8_isLate_X8_at : GoodIn wsX8_isLate (wsV RX8 53 RX8 yX8_at wsX8_at) := goodIn_app (goodIn_of _ (by decide +kernel)) ggX8_isLate_X8_at
theorem dX8_isLate_0 : decode cX8_isLate 0 = .ok (.bipush 10, 2) := by decide +kernel
theorem dX8_isLate_2 : decode cX8_isLate 2 = .ok (.aload_n 1, 1) := by decide +kernel
theorem dX8_isLate_3 : decode cX8_isLate 3 = .ok (.getfield 30, 3) := by decide +kernel
theorem dX8_isLate_6 : decode cX8_isLate 6 = .ok (.iadd, 1) := by decide +kernel
theorem dX8_isLate_7 : decode cX8_isLate 7 = .ok (.iconst 1, 1) := by decide +kernel
theorem dX8_isLate_8 : decode cX8_isLate 8 = .ok (.isub, 1) := by decide +kernel
theorem dX8_isLate_9 : decode cX8_isLate 9 = .ok (.istore_n 3, 1) := by decide +kernel
theorem dX8_isLate_10 : decode cX8_isLate 10 = .ok (.aload_n 0, 1) := by decide +kernel
theorem dX8_isLate_11 : decode cX8_isLate 11 = .ok (.iload_n 3, 1) := by decide +kernel
theorem dX8_isLate_12 : decode cX8_isLate 12 = .ok (.iload_n 2, 1) := by decide +kernel
theorem dX8_isLate_13 : decode cX8_isLate 13 = .ok (.invokevirtual 53, 3) := by decide +kernel
theorem dX8_isLate_16 : decode cX8_isLate 16 = .ok (.aload_n 0, 1) := by decide +kernel
theorem dX8_isLate_17 : decode cX8_isLate 17 = .ok (.getfield 15, 3) := by decide +kernel
theorem dX8_isLate_20 : decode cX8_isLate 20 = .ok (.iload_n 3, 1) := by decide +kernel
theorem dX8_isLate_21 : decode cX8_isLate 21 = .ok (.laload, 1) := by decide +kernel
theorem dX8_isLate_22 : decode cX8_isLate 22 = .ok (.lconst 1, 1) := by decide +kernel
theorem dX8_isLate_23 : decode cX8_isLate 23 = .ok (.land, 1) := by decide +kernel
theorem dX8_isLate_24 : decode cX8_isLate 24 = .ok (.l2i, 1) := by decide +kernel
theorem dX8_isLate_25 : decode cX8_isLate 25 = .ok (.if_icmp .eq 7, 3) := by decide +kernel
theorem dX8_isLate_28 : decode cX8_isLate 28 = .ok (.iconst 1, 1) := by decide +kernel
theorem dX8_isLate_29 : decode cX8_isLate 29 = .ok (.goto 4, 3) := by decide +kernel
theorem dX8_isLate_32 : decode cX8_isLate 32 = .ok (.iconst 0, 1) := by decide +kernel
theorem dX8_isLate_33 : decode cX8_isLate 33 = .ok (.ireturn, 1) := by decide +kernel
set_option maxRecDepth 20000 in
theorem ggX9_init_X4_init : GoodIn wsX9_init wsX4_init := goodIn_r _ [45, 46, 2, 3, 47, 48, 49, 50, 114, 115, 116] (by decide +kernel) (by decide +kernel)
set_option maxRecDepth 20000 in
theorem gX9_init_X4_init_n11 : GoodIn wsX9_init (wsX4_init) := ggX9_init_X4_init
set_option maxRecDepth 20000 in
theorem ggX9_init_X0_init : GoodIn wsX9_init wsX0_init := goodIn_r _ [52, 53, 2, 3, 47, 54, 55, 56, 57, 58, 130, 131, 132, 133] (by decide +kernel) (by decide +kernel)
set_option maxRecDepth 20000 in
theorem gX9_init_X0_init_n18 : GoodIn wsX9_init (wsX0_init) := ggX9_init_X0_init
set_option maxRecDepth 20000 in
theorem ggX9_init_X6_init : GoodIn wsX9_init wsX6_init := goodIn_r _ [60, 61, 2, 3, 47, 62, 63, 64, 65, 134, 135, 136, 137] (by decide +kernel) (by decide +kernel)
set_option maxRecDepth 20000 in
theorem gX9_init_X6_init_n25 : GoodIn wsX9_init (wsX6_init) := ggX9_init_X6_init
set_option maxRecDepth 20000 in
theorem ggX9_init_X5_init : GoodIn wsX9_init wsX5_init := goodIn_r _ [67, 68, 2, 3, 47, 69, 70, 71, 138, 139, 140] (by decide +kernel) (by decide +kernel)
set_option maxRecDepth 20000 in
theorem gX9_init_X5_init_n32 : GoodIn wsX9_init (wsX5_init) := ggX9_init_X5_init
set_option maxRecDepth 20000 in
theorem ggX9_init_X1_init : GoodIn wsX9_init wsX1_init := goodIn_r _ [73, 74, 2, 3, 47, 75, 76, 77, 141, 142, 143] (by decide +kernel) (by decide +kernel)
set_option maxRecDepth 20000 in
theorem gX9_init_X1_init_n46 : GoodIn wsX9_init (wsX1_init) := ggX9_init_X1_init
set_option maxRecDepth 20000 in
theorem ggX9_init_X3_init : GoodIn wsX9_init wsX3_init := goodIn_r _ [79, 80, 2, 3, 81, 23, 24, 82, 47, 83, 84, 85, 86, 87, 88, 72, 73, 74, 75, 76, 77, 141, 142, 143, 144, 145, 146, 147, 148, 149] (by decide +kernel) (by decide +kernel)
set_option maxRecDepth 20000 in
theorem gX9_init_X3_init_n53 : GoodIn wsX9_init (wsX3_init) := ggX9_init_X3_init
set_option maxRecDepth 20000 in
theorem ggX9_init_X8_init : GoodIn wsX9_init wsX8_init := goodIn_r _ [90, 91, 2, 3, 84, 92, 93, 94, 95, 150, 151, 152, 153] (by decide +kernel) (by decide +kernel)
set_option maxRecDepth 20000 in
theorem gX9_init_X8_init_n60 : GoodIn wsX9_init (wsX8_init) := ggX9_init_X8_init
set_option maxRecDepth 20000 in
theorem ggX9_init_X7_init : GoodIn wsX9_init wsX7_init := goodIn_r _ [97, 98, 2, 3, 47, 99, 154] (by decide +kernel) (by decide +kernel)
set_option maxRecDepth 20000 in
theorem gX9_init_X7_init_n67 : GoodIn wsX9_init (wsX7_init) := ggX9_init_X7_init
set_option maxRecDepth 20000 in
theorem ggX9_init_X2_init : GoodIn wsX9_init wsX2_init := goodIn_r _ [101, 102, 2, 3, 103, 104, 105, 47, 106, 107, 108, 109, 110, 111, 112, 113, 155, 156, 157, 158, 159, 160, 161, 162, 163, 164, 165] (by decide +kernel) (by decide +kernel)
set_option maxRecDepth 20000 in
theorem gX9_init_X2_init_n74 : GoodIn wsX9_init (wsX2_init) := ggX9_init_X2_init
theorem dX9_init_0 : decode cX9_init 0 = .ok (.aload_n 0, 1) := by decide +kernel
theorem dX9_init_1 : decode cX9_init 1 = .ok (.invokespecial 3, 3) := by decide +kernel
theorem dX9_init_4 : decode cX9_init 4 = .ok (.aload_n 0, 1) := by decide +kernel
theorem dX9_init_5 : decode cX9_init 5 = .ok (.new 9, 3) := by decide +kernel
theorem dX9_init_8 : decode cX9_init 8 = .ok (.dup, 1) := by decide +kernel
theorem dX9_init_9 : decode cX9_init 9 = .ok (.invokespecial 11, 3) := by decide +kernel
theorem dX9_init_12 : decode cX9_init 12 = .ok (.putfield 12, 3) := by decide +kernel
theorem dX9_init_15 : decode cX9_init 15 = .ok (.aload_n 0, 1) := by decide +kernel
theorem dX9_init_16 : decode cX9_init 16 = .ok (.new 16, 3) := by decide +kernel
theorem dX9_init_19 : decode cX9_init 19 = .ok (.dup, 1) := by decide +kernel
theorem dX9_init_20 : decode cX9_init 20 = .ok (.invokespecial 18, 3) := by decide +kernel
theorem dX9_init_23 : decode cX9_init 23 = .ok (.putfield 19, 3) := by decide +kernel
theorem dX9_init_26 : decode cX9_init 26 = .ok (.aload_n 0, 1) := by decide +kernel
theorem dX9_init_27 : decode cX9_init 27 = .ok (.new 23, 3) := by decide +kernel
theorem dX9_init_30 : decode cX9_init 30 = .ok (.dup, 1) := by decide +kernel
theorem dX9_init_31 : decode cX9_init 31 = .ok (.invokespecial 25, 3) := by decide +kernel
theorem dX9_init_34 : decode cX9_init 34 = .ok (.putfield 26, 3) := by decide +kernel
theorem dX9_init_37 : decode cX9_init 37 = .ok (.aload_n 0, 1) := by decide +kernel
theorem dX9_init_38 : decode cX9_init 38 = .ok (.new 30, 3) := by decide +kernel
theorem dX9_init_41 : decode cX9_init 41 = .ok (.dup, 1) := by decide +kernel
theorem dX9_init_42 : decode cX9_init 42 = .ok (.invokespecial 32, 3) := by decide +kernel
theorem dX9_init_45 : decode cX9_init 45 = .ok (.putfield 33, 3) := by decide +kernel
theorem dX9_init_48 : decode cX9_init 48 = .ok (.aload_n 0, 1) := by decide +kernel
theorem dX9_init_49 : decode cX9_init 49 = .ok (.new 30, 3) := by decide +kernel
theorem dX9_init_52 : decode cX9_init 52 = .ok (.dup, 1) := by decide +kernel
theorem dX9_init_53 : decode cX9_init 53 = .ok (.invokespecial 32, 3) := by decide +kernel
theorem dX9_init_56 : decode cX9_init 56 = .ok (.putfield 37, 3) := by decide +kernel
theorem dX9_init_59 : decode cX9_init 59 = .ok (.aload_n 0, 1) := by decide +kernel
theorem dX9_init_60 : decode cX9_init 60 = .ok (.iconst 2, 1) := by decide +kernel
theorem dX9_init_61 : decode cX9_init 61 = .ok (.anewarray 30, 3) := by decide +kernel
theorem dX9_init_64 : decode cX9_init 64 = .ok (.putfield 40, 3) := by decide +kernel
theorem dX9_init_67 : decode cX9_init 67 = .ok (.aload_n 0, 1) := by decide +kernel
theorem dX9_init_68 : decode cX9_init 68 = .ok (.new 44, 3) := by decide +kernel
theorem dX9_init_71 : decode cX9_init 71 = .ok (.dup, 1) := by decide +kernel
theorem dX9_init_72 : decode cX9_init 72 = .ok (.invokespecial 46, 3) := by decide +kernel
theorem dX9_init_75 : decode cX9_init 75 = .ok (.putfield 47, 3) := by decide +kernel
theorem dX9_init_78 : decode cX9_init 78 = .ok (.aload_n 0, 1) := by decide +kernel
theorem dX9_init_79 : decode cX9_init 79 = .ok (.new 51, 3) := by decide +kernel
theorem dX9_init_82 : decode cX9_init 82 = .ok (.dup, 1) := by decide +kernel
theorem dX9_init_83 : decode cX9_init 83 = .ok (.invokespecial 53, 3) := by decide +kernel
theorem dX9_init_86 : decode cX9_init 86 = .ok (.putfield 54, 3) := by decide +kernel
theorem dX9_init_89 : decode cX9_init 89 = .ok (.aload_n 0, 1) := by decide +kernel
theorem dX9_init_90 : decode cX9_init 90 = .ok (.new 58, 3) := by decide +kernel
theorem dX9_init_93 : decode cX9_init 93 = .ok (.dup, 1) := by decide +kernel
theorem dX9_init_94 : decode cX9_init 94 = .ok (.invokespecial 60, 3) := by decide +kernel
theorem dX9_init_97 : decode cX9_init 97 = .ok (.putfield 61, 3) := by decide +kernel
theorem dX9_init_100 : decode cX9_init 100 = .ok (.aload_n 0, 1) := by decide +kernel
theorem dX9_init_101 : decode cX9_init 101 = .ok (.new 65, 3) := by decide +kernel
theorem dX9_init_104 : decode cX9_init 104 = .ok (.dup, 1) := by decide +kernel
theorem dX9_init_105 : decode cX9_init 105 = .ok (.invokespecial 67, 3) := by decide +kernel
theorem dX9_init_108 : decode cX9_init 108 = .ok (.putfield 68, 3) := by decide +kernel
theorem dX9_init_111 : decode cX9_init 111 = .ok (.aload_n 0, 1) := by decide +kernel
theorem dX9_init_112 : decode cX9_init 112 = .ok (.new 72, 3) := by decide +kernel
theorem dX9_init_115 : decode cX9_init 115 = .ok (.dup, 1) := by decide +kernel
theorem dX9_init_116 : decode cX9_init 116 = .ok (.invokespecial 74, 3) := by decide +kernel
theorem dX9_init_119 : decode cX9_init 119 = .ok (.putfield 75, 3) := by decide +kernel
theorem dX9_init_122 : decode cX9_init 122 = .ok (.aload_n 0, 1) := by decide +kernel
theorem dX9_init_123 : decode cX9_init 123 = .ok (.new 72, 3) := by decide +kernel
theorem dX9_init_126 : decode cX9_init 126 = .ok (.dup, 1) := by decide +kernel
theorem dX9_init_127 : decode cX9_init 127 = .ok (.invokespecial 74, 3) := by decide +kernel
theorem dX9_init_130 : decode cX9_init 130 = .ok (.putfield 79, 3) := by decide +kernel
theorem dX9_init_133 : decode cX9_init 133 = .ok (.aload_n 0, 1) := by decide +kernel
theorem dX9_init_134 : decode cX9_init 134 = .ok (.lconst 0, 1) := by decide +kernel
theorem dX9_init_135 : decode cX9_init 135 = .ok (.putfield 82, 3) := by decide +kernel
theorem dX9_init_138 : decode cX9_init 138 = .ok (.iconst 0, 1) := by decide +kernel
theorem dX9_init_139 : decode cX9_init 139 = .ok (.istore_n 1, 1) := by decide +kernel
theorem dX9_init_140 : decode cX9_init 140 = .ok (.iload_n 1, 1) := by decide +kernel
theorem dX9_init_141 : decode cX9_init 141 = .ok (.iconst 2, 1) := by decide +kernel
theorem dX9_init_142 : decode cX9_init 142 = .ok (.if_icmp .ge 22, 3) := by decide +kernel
theorem dX9_init_145 : decode cX9_init 145 = .ok (.aload_n 0, 1) := by decide +kernel
theorem dX9_init_146 : decode cX9_init 146 = .ok (.getfield 40, 3) := by decide +kernel
theorem dX9_init_149 : decode cX9_init 149 = .ok (.iload_n 1, 1) := by decide +kernel
theorem dX9_init_150 : decode cX9_init 150 = .ok (.new 30, 3) := by decide +kernel
theorem dX9_init_153 : decode cX9_init 153 = .ok (.dup, 1) := by decide +kernel
theorem dX9_init_154 : decode cX9_init 154 = .ok (.invokespecial 32, 3) := by decide +kernel
theorem dX9_init_157 : decode cX9_init 157 = .ok (.aastore, 1) := by decide +kernel
theorem dX9_init_158 : decode cX9_init 158 = .ok (.iinc 1 1, 3) := by decide +kernel
theorem dX9_init_161 : decode cX9_init 161 = .ok (.goto (-21), 3) := by decide +kernel
theorem dX9_init_164 : decode cX9_init 164 = .ok (.return_, 1) := by decide +kernel
theorem dX9_write_0 : decode cX9_write 0 = .ok (.iload_n 1, 1) := by decide +kernel
theorem dX9_write_1 : decode cX9_write 1 = .ok (.ifCond .lt 10, 3) := by decide +kernel
theorem dX9_write_4 : decode cX9_write 4 = .ok (.iload_n 1, 1) := by decide +kernel
theorem dX9_write_5 : decode cX9_write 5 = .ok (.sipush 255, 3) := by decide +kernel
theorem dX9_write_8 : decode cX9_write 8 = .ok (.if_icmp .le 6, 3) := by decide +kernel
theorem dX9_write_11 : decode cX9_write 11 = .ok (.bipush (-2), 2) := by decide +kernel
theorem dX9_write_13 : decode cX9_write 13 = .ok (.ireturn, 1) := by decide +kernel
theorem dX9_write_14 : decode cX9_write 14 = .ok (.aload_n 0, 1) := by decide +kernel
theorem dX9_write_15 : decode cX9_write 15 = .ok (.getfield 12, 3) := by decide +kernel
theorem dX9_write_18 : decode cX9_write 18 = .ok (.getfield 86, 3) := by decide +kernel
theorem dX9_write_21 : decode cX9_write 21 = .ok (.bipush 40, 2) := by decide +kernel
theorem dX9_write_23 : decode cX9_write 23 = .ok (.if_icmp .lt 6, 3) := by decide +kernel
theorem dX9_write_26 : decode cX9_write 26 = .ok (.bipush (-4), 2) := by decide +kernel
theorem dX9_write_28 : decode cX9_write 28 = .ok (.ireturn, 1) := by decide +kernel
theorem dX9_write_29 : decode cX9_write 29 = .ok (.aload_n 0, 1) := by decide +kernel
theorem dX9_write_30 : decode cX9_write 30 = .ok (.getfield 12, 3) := by decide +kernel
theorem dX9_write_33 : decode cX9_write 33 = .ok (.getfield 90, 3) := by decide +kernel
theorem dX9_write_36 : decode cX9_write 36 = .ok (.aload_n 0, 1) := by decide +kernel
theorem dX9_write_37 : decode cX9_write 37 = .ok (.getfield 12, 3) := by decide +kernel
theorem dX9_write_40 : decode cX9_write 40 = .ok (.getfield 86, 3) := by decide +kernel
theorem dX9_write_43 : decode cX9_write 43 = .ok (.iload_n 1, 1) := by decide +kernel
theorem dX9_write_44 : decode cX9_write 44 = .ok (.iastore, 1) := by decide +kernel
theorem dX9_write_45 : decode cX9_write 45 = .ok (.aload_n 0, 1) := by decide +kernel
theorem dX9_write_46 : decode cX9_write 46 = .ok (.getfield 12, 3) := by decide +kernel
theorem dX9_write_49 : decode cX9_write 49 = .ok (.dup, 1) := by decide +kernel
theorem dX9_write_50 : decode cX9_write 50 = .ok (.getfield 86, 3) := by decide +kernel
theorem dX9_write_53 : decode cX9_write 53 = .ok (.iconst 1, 1) := by decide +kernel
theorem dX9_write_54 : decode cX9_write 54 = .ok (.iadd, 1) := by decide +kernel
theorem dX9_write_55 : decode cX9_write 55 = .ok (.putfield 86, 3) := by decide +kernel
theorem dX9_write_58 : decode cX9_write 58 = .ok (.aload_n 0, 1) := by decide +kernel
theorem dX9_write_59 : decode cX9_write 59 = .ok (.getfield 12, 3) := by decide +kernel
theorem dX9_write_62 : decode cX9_write 62 = .ok (.getfield 86, 3) := by decide +kernel
theorem dX9_write_65 : decode cX9_write 65 = .ok (.ireturn, 1) := by decide +kernel
theorem dX9_wipe_0 : decode cX9_wipe 0 = .ok (.aload_n 0, 1) := by decide +kernel
theorem dX9_wipe_1 : decode cX9_wipe 1 = .ok (.getfield 12, 3) := by decide +kernel
theorem dX9_wipe_4 : decode cX9_wipe 4 = .ok (.getfield 86, 3) := by decide +kernel
theorem dX9_wipe_7 : decode cX9_wipe 7 = .ok (.istore_n 1, 1) := by decide +kernel
theorem dX9_wipe_8 : decode cX9_wipe 8 = .ok (.aload_n 0, 1) := by decide +kernel
theorem dX9_wipe_9 : decode cX9_wipe 9 = .ok (.getfield 12, 3) := by decide +kernel
theorem dX9_wipe_12 : decode cX9_wipe 12 = .ok (.iconst 0, 1) := by decide +kernel
theorem dX9_wipe_13 : decode cX9_wipe 13 = .ok (.putfield 86, 3) := by decide +kernel
theorem dX9_wipe_16 : decode cX9_wipe 16 = .ok (.iload_n 1, 1) := by decide +kernel
theorem dX9_wipe_17 : decode cX9_wipe 17 = .ok (.ireturn, 1) := by decide +kernel
set_option maxRecDepth 20000 in
theorem ggX9_fault_X4_readInto : GoodIn wsX9_fault wsX4_readInto := goodIn_r _ [7, 8, 9, 10, 11, 12, 13, 14, 15, 6, 16, 17, 18, 19, 20, 21, 22, 23, 24, 25, 26, 27, 28, 29, 30, 31, 32, 33, 34, 35, 36, 37, 38, 39, 40, 41, 42, 43, 44, 58, 59, 60, 61, 62, 63, 64, 65, 66, 67, 68, 69, 70, 71] (by decide +kernel) (by decide +kernel)
set_option maxRecDepth 20000 in
theorem gX9_fault_X4_readInto : GoodIn wsX9_fault (wsV RX9 94 RX4 yX4_readInto wsX4_readInto) := goodIn_app (goodIn_of _ (by decide +kernel)) ggX9_fault_X4_readInto
theorem dX9_fault_0 : decode cX9_fault 0 = .ok (.aload_n 0, 1) := by decide +kernel
theorem dX9_fault_1 : decode cX9_fault 1 = .ok (.getfield 12, 3) := by decide +kernel
theorem dX9_fault_4 : decode cX9_fault 4 = .ok (.aload_n 0, 1) := by decide +kernel
theorem dX9_fault_5 : decode cX9_fault 5 = .ok (.getfield 79, 3) := by decide +kernel
theorem dX9_fault_8 : decode cX9_fault 8 = .ok (.invokevirtual 94, 3) := by decide +kernel
theorem dX9_fault_11 : decode cX9_fault 11 = .ok (.ireturn, 1) := by decide +kernel
set_option maxRecDepth 20000 in
theorem ggX9_circuit_X4_readInto : GoodIn wsX9_circuit wsX4_readInto := goodIn_r _ [15, 16, 17, 18, 19, 20, 21, 22, 23, 14, 24, 25, 26, 27, 28, 29, 30, 31, 32, 33, 34, 35, 36, 37, 38, 39, 40, 41, 42, 43, 44, 45, 46, 47, 48, 49, 50, 51, 52, 116, 117, 118, 105, 106, 107, 108, 109, 110, 111, 112, 113, 114, 115] (by decide +kernel) (by decide +kernel)
set_option maxRecDepth 20000 in
theorem gX9_circuit_X4_readInto : GoodIn wsX9_circuit (wsV RX9 94 RX4 yX4_readInto wsX4_readInto) := goodIn_app (goodIn_of _ (by decide +kernel)) ggX9_circuit_X4_readInto
set_option maxRecDepth 20000 in
theorem ggX9_circuit_X2_numberPaths : GoodIn wsX9_circuit wsX2_numberPaths := goodIn_r _ [57, 58, 59, 60, 61, 62, 63, 56, 64, 65, 66, 67, 68, 69, 70, 105, 106, 107, 108, 109, 110, 111, 112, 113, 114, 115] (by decide +kernel) (by decide +kernel)
set_option maxRecDepth 20000 in
theorem gX9_circuit_X2_numberPaths : GoodIn wsX9_circuit (wsV RX9 98 RX2 yX2_numberPaths wsX2_numberPaths) := goodIn_app (goodIn_of _ (by decide +kernel)) ggX9_circuit_X2_numberPaths
set_option maxRecDepth 20000 in
theorem ggX9_circuit_X5_begin : GoodIn wsX9_circuit wsX5_begin := goodIn_r _ [75, 76, 77, 78, 102, 103, 104, 105, 106, 107, 108, 109, 110, 111, 112, 113, 114, 115] (by decide +kernel) (by decide +kernel)
set_option maxRecDepth 20000 in
theorem gX9_circuit_X5_begin : GoodIn wsX9_circuit (wsV RX9 101 RX5 yX5_begin wsX5_begin) := goodIn_app (goodIn_of _ (by decide +kernel)) ggX9_circuit_X5_begin
set_option maxRecDepth 20000 in
theorem ggX9_circuit_X3_forget : GoodIn wsX9_circuit wsX3_forget := goodIn_r _ [83, 84, 119, 120, 121, 122, 123, 124] (by decide +kernel) (by decide +kernel)
set_option maxRecDepth 20000 in
theorem gX9_circuit_X3_forget : GoodIn wsX9_circuit (wsV RX9 106 RX3 yX3_forget wsX3_forget) := goodIn_app (goodIn_of _ (by decide +kernel)) ggX9_circuit_X3_forget
theorem dX9_circuit_0 : decode cX9_circuit 0 = .ok (.aload_n 0, 1) := by decide +kernel
theorem dX9_circuit_1 : decode cX9_circuit 1 = .ok (.getfield 12, 3) := by decide +kernel
theorem dX9_circuit_4 : decode cX9_circuit 4 = .ok (.aload_n 0, 1) := by decide +kernel
theorem dX9_circuit_5 : decode cX9_circuit 5 = .ok (.getfield 79, 3) := by decide +kernel
theorem dX9_circuit_8 : decode cX9_circuit 8 = .ok (.invokevirtual 94, 3) := by decide +kernel
theorem dX9_circuit_11 : decode cX9_circuit 11 = .ok (.bipush (-9), 2) := by decide +kernel
theorem dX9_circuit_13 : decode cX9_circuit 13 = .ok (.if_icmp .eq 6, 3) := by decide +kernel
theorem dX9_circuit_16 : decode cX9_circuit 16 = .ok (.bipush (-3), 2) := by decide +kernel
theorem dX9_circuit_18 : decode cX9_circuit 18 = .ok (.ireturn, 1) := by decide +kernel
theorem dX9_circuit_19 : decode cX9_circuit 19 = .ok (.aload_n 0, 1) := by decide +kernel
theorem dX9_circuit_20 : decode cX9_circuit 20 = .ok (.getfield 75, 3) := by decide +kernel
theorem dX9_circuit_23 : decode cX9_circuit 23 = .ok (.astore_n 1, 1) := by decide +kernel
theorem dX9_circuit_24 : decode cX9_circuit 24 = .ok (.aload_n 0, 1) := by decide +kernel
theorem dX9_circuit_25 : decode cX9_circuit 25 = .ok (.aload_n 0, 1) := by decide +kernel
theorem dX9_circuit_26 : decode cX9_circuit 26 = .ok (.getfield 79, 3) := by decide +kernel
theorem dX9_circuit_29 : decode cX9_circuit 29 = .ok (.putfield 75, 3) := by decide +kernel
theorem dX9_circuit_32 : decode cX9_circuit 32 = .ok (.aload_n 0, 1) := by decide +kernel
theorem dX9_circuit_33 : decode cX9_circuit 33 = .ok (.aload_n 1, 1) := by decide +kernel
theorem dX9_circuit_34 : decode cX9_circuit 34 = .ok (.putfield 79, 3) := by decide +kernel
theorem dX9_circuit_37 : decode cX9_circuit 37 = .ok (.aload_n 0, 1) := by decide +kernel
theorem dX9_circuit_38 : decode cX9_circuit 38 = .ok (.getfield 75, 3) := by decide +kernel
theorem dX9_circuit_41 : decode cX9_circuit 41 = .ok (.invokevirtual 98, 3) := by decide +kernel
theorem dX9_circuit_44 : decode cX9_circuit 44 = .ok (.aload_n 0, 1) := by decide +kernel
theorem dX9_circuit_45 : decode cX9_circuit 45 = .ok (.getfield 33, 3) := by decide +kernel
theorem dX9_circuit_48 : decode cX9_circuit 48 = .ok (.aload_n 0, 1) := by decide +kernel
theorem dX9_circuit_49 : decode cX9_circuit 49 = .ok (.getfield 75, 3) := by decide +kernel
theorem dX9_circuit_52 : decode cX9_circuit 52 = .ok (.invokevirtual 101, 3) := by decide +kernel
theorem dX9_circuit_55 : decode cX9_circuit 55 = .ok (.aload_n 0, 1) := by decide +kernel
theorem dX9_circuit_56 : decode cX9_circuit 56 = .ok (.getfield 19, 3) := by decide +kernel
theorem dX9_circuit_59 : decode cX9_circuit 59 = .ok (.iconst 0, 1) := by decide +kernel
theorem dX9_circuit_60 : decode cX9_circuit 60 = .ok (.putfield 105, 3) := by decide +kernel
theorem dX9_circuit_63 : decode cX9_circuit 63 = .ok (.aload_n 0, 1) := by decide +kernel
theorem dX9_circuit_64 : decode cX9_circuit 64 = .ok (.getfield 54, 3) := by decide +kernel
theorem dX9_circuit_67 : decode cX9_circuit 67 = .ok (.invokevirtual 106, 3) := by decide +kernel
theorem dX9_circuit_70 : decode cX9_circuit 70 = .ok (.iconst 0, 1) := by decide +kernel
theorem dX9_circuit_71 : decode cX9_circuit 71 = .ok (.istore_n 2, 1) := by decide +kernel
theorem dX9_circuit_72 : decode cX9_circuit 72 = .ok (.iload_n 2, 1) := by decide +kernel
theorem dX9_circuit_73 : decode cX9_circuit 73 = .ok (.iconst 2, 1) := by decide +kernel
theorem dX9_circuit_74 : decode cX9_circuit 74 = .ok (.if_icmp .ge 19, 3) := by decide +kernel
theorem dX9_circuit_77 : decode cX9_circuit 77 = .ok (.aload_n 0, 1) := by decide +kernel
theorem dX9_circuit_78 : decode cX9_circuit 78 = .ok (.getfield 40, 3) := by decide +kernel
theorem dX9_circuit_81 : decode cX9_circuit 81 = .ok (.iload_n 2, 1) := by decide +kernel
theorem dX9_circuit_82 : decode cX9_circuit 82 = .ok (.aaload, 1) := by decide +kernel
theorem dX9_circuit_83 : decode cX9_circuit 83 = .ok (.iconst 0, 1) := by decide +kernel
theorem dX9_circuit_84 : decode cX9_circuit 84 = .ok (.putfield 109, 3) := by decide +kernel
theorem dX9_circuit_87 : decode cX9_circuit 87 = .ok (.iinc 2 1, 3) := by decide +kernel
theorem dX9_circuit_90 : decode cX9_circuit 90 = .ok (.goto (-18), 3) := by decide +kernel
theorem dX9_circuit_93 : decode cX9_circuit 93 = .ok (.aload_n 0, 1) := by decide +kernel
theorem dX9_circuit_94 : decode cX9_circuit 94 = .ok (.getfield 75, 3) := by decide +kernel
theorem dX9_circuit_97 : decode cX9_circuit 97 = .ok (.getfield 113, 3) := by decide +kernel
theorem dX9_circuit_100 : decode cX9_circuit 100 = .ok (.ireturn, 1) := by decide +kernel
set_option maxRecDepth 20000 in
theorem ggX9_gate_X2_hasGate : GoodIn wsX9_gate wsX2_hasGate := goodIn_r _ [11, 12, 29, 30, 31, 32, 33, 34, 35, 36, 37, 38, 39] (by decide +kernel) (by decide +kernel)
set_option maxRecDepth 20000 in
theorem gX9_gate_X2_hasGate : GoodIn wsX9_gate (wsV RX9 116 RX2 yX2_hasGate wsX2_hasGate) := goodIn_app (goodIn_of _ (by decide +kernel)) ggX9_gate_X2_hasGate
theorem dX9_gate_0 : decode cX9_gate 0 = .ok (.aload_n 0, 1) := by decide +kernel
theorem dX9_gate_1 : decode cX9_gate 1 = .ok (.getfield 75, 3) := by decide +kernel
theorem dX9_gate_4 : decode cX9_gate 4 = .ok (.iload_n 1, 1) := by decide +kernel
theorem dX9_gate_5 : decode cX9_gate 5 = .ok (.invokevirtual 116, 3) := by decide +kernel
theorem dX9_gate_8 : decode cX9_gate 8 = .ok (.ifCond .ne 5, 3) := by decide +kernel
theorem dX9_gate_11 : decode cX9_gate 11 = .ok (.iconst (-1), 1) := by decide +kernel
theorem dX9_gate_12 : decode cX9_gate 12 = .ok (.ireturn, 1) := by decide +kernel
theorem dX9_gate_13 : decode cX9_gate 13 = .ok (.iload_n 2, 1) := by decide +kernel
theorem dX9_gate_14 : decode cX9_gate 14 = .ok (.tableswitch 70 0 3 #[30, 40, 50, 60], 30) := by decide +kernel
theorem dX9_gate_44 : decode cX9_gate 44 = .ok (.aload_n 0, 1) := by decide +kernel
theorem dX9_gate_45 : decode cX9_gate 45 = .ok (.getfield 33, 3) := by decide +kernel
theorem dX9_gate_48 : decode cX9_gate 48 = .ok (.getfield 120, 3) := by decide +kernel
theorem dX9_gate_51 : decode cX9_gate 51 = .ok (.iload_n 1, 1) := by decide +kernel
theorem dX9_gate_52 : decode cX9_gate 52 = .ok (.iaload, 1) := by decide +kernel
theorem dX9_gate_53 : decode cX9_gate 53 = .ok (.ireturn, 1) := by decide +kernel
theorem dX9_gate_54 : decode cX9_gate 54 = .ok (.aload_n 0, 1) := by decide +kernel
theorem dX9_gate_55 : decode cX9_gate 55 = .ok (.getfield 75, 3) := by decide +kernel
theorem dX9_gate_58 : decode cX9_gate 58 = .ok (.getfield 123, 3) := by decide +kernel
theorem dX9_gate_61 : decode cX9_gate 61 = .ok (.iload_n 1, 1) := by decide +kernel
theorem dX9_gate_62 : decode cX9_gate 62 = .ok (.iaload, 1) := by decide +kernel
theorem dX9_gate_63 : decode cX9_gate 63 = .ok (.ireturn, 1) := by decide +kernel
theorem dX9_gate_64 : decode cX9_gate 64 = .ok (.aload_n 0, 1) := by decide +kernel
theorem dX9_gate_65 : decode cX9_gate 65 = .ok (.getfield 75, 3) := by decide +kernel
theorem dX9_gate_68 : decode cX9_gate 68 = .ok (.getfield 126, 3) := by decide +kernel
theorem dX9_gate_71 : decode cX9_gate 71 = .ok (.iload_n 1, 1) := by decide +kernel
theorem dX9_gate_72 : decode cX9_gate 72 = .ok (.iaload, 1) := by decide +kernel
theorem dX9_gate_73 : decode cX9_gate 73 = .ok (.ireturn, 1) := by decide +kernel
theorem dX9_gate_74 : decode cX9_gate 74 = .ok (.aload_n 0, 1) := by decide +kernel
theorem dX9_gate_75 : decode cX9_gate 75 = .ok (.getfield 33, 3) := by decide +kernel
theorem dX9_gate_78 : decode cX9_gate 78 = .ok (.getfield 129, 3) := by decide +kernel
theorem dX9_gate_81 : decode cX9_gate 81 = .ok (.iload_n 1, 1) := by decide +kernel
theorem dX9_gate_82 : decode cX9_gate 82 = .ok (.iaload, 1) := by decide +kernel
theorem dX9_gate_83 : decode cX9_gate 83 = .ok (.ireturn, 1) := by decide +kernel
theorem dX9_gate_84 : decode cX9_gate 84 = .ok (.bipush (-2), 2) := by decide +kernel
theorem dX9_gate_86 : decode cX9_gate 86 = .ok (.ireturn, 1) := by decide +kernel
set_option maxRecDepth 20000 in
theorem ggX9_slow_X2_hasGate : GoodIn wsX9_slow wsX2_hasGate := goodIn_r _ [9, 10, 40, 41, 42, 43, 44, 45, 46, 47, 48, 49, 50] (by decide +kernel) (by decide +kernel)
set_option maxRecDepth 20000 in
theorem gX9_slow_X2_hasGate : GoodIn wsX9_slow (wsV RX9 116 RX2 yX2_hasGate wsX2_hasGate) := goodIn_app (goodIn_of _ (by decide +kernel)) ggX9_slow_X2_hasGate
set_option maxRecDepth 20000 in
theorem ggX9_slow_X0_add : GoodIn wsX9_slow wsX0_add := goodIn_r _ [15, 16, 17, 18, 19, 20, 21, 22, 14, 23, 51, 52, 53, 54] (by decide +kernel) (by decide +kernel)
set_option maxRecDepth 20000 in
theorem gX9_slow_X0_add : GoodIn wsX9_slow (wsV RX9 132 RX0 yX0_add wsX0_add) := goodIn_app (goodIn_of _ (by decide +kernel)) ggX9_slow_X0_add
theorem dX9_slow_0 : decode cX9_slow 0 = .ok (.aload_n 0, 1) := by decide +kernel
theorem dX9_slow_1 : decode cX9_slow 1 = .ok (.getfield 75, 3) := by decide +kernel
theorem dX9_slow_4 : decode cX9_slow 4 = .ok (.iload_n 1, 1) := by decide +kernel
theorem dX9_slow_5 : decode cX9_slow 5 = .ok (.invokevirtual 116, 3) := by decide +kernel
theorem dX9_slow_8 : decode cX9_slow 8 = .ok (.ifCond .ne 5, 3) := by decide +kernel
theorem dX9_slow_11 : decode cX9_slow 11 = .ok (.iconst (-1), 1) := by decide +kernel
theorem dX9_slow_12 : decode cX9_slow 12 = .ok (.ireturn, 1) := by decide +kernel
theorem dX9_slow_13 : decode cX9_slow 13 = .ok (.iload_n 2, 1) := by decide +kernel
theorem dX9_slow_14 : decode cX9_slow 14 = .ok (.iconst 1, 1) := by decide +kernel
theorem dX9_slow_15 : decode cX9_slow 15 = .ok (.if_icmp .lt 9, 3) := by decide +kernel
theorem dX9_slow_18 : decode cX9_slow 18 = .ok (.iload_n 2, 1) := by decide +kernel
theorem dX9_slow_19 : decode cX9_slow 19 = .ok (.bipush 9, 2) := by decide +kernel
theorem dX9_slow_21 : decode cX9_slow 21 = .ok (.if_icmp .le 6, 3) := by decide +kernel
theorem dX9_slow_24 : decode cX9_slow 24 = .ok (.bipush (-2), 2) := by decide +kernel
theorem dX9_slow_26 : decode cX9_slow 26 = .ok (.ireturn, 1) := by decide +kernel
theorem dX9_slow_27 : decode cX9_slow 27 = .ok (.aload_n 0, 1) := by decide +kernel
theorem dX9_slow_28 : decode cX9_slow 28 = .ok (.getfield 33, 3) := by decide +kernel
theorem dX9_slow_31 : decode cX9_slow 31 = .ok (.getfield 129, 3) := by decide +kernel
theorem dX9_slow_34 : decode cX9_slow 34 = .ok (.iload_n 1, 1) := by decide +kernel
theorem dX9_slow_35 : decode cX9_slow 35 = .ok (.iaload, 1) := by decide +kernel
theorem dX9_slow_36 : decode cX9_slow 36 = .ok (.istore_n 3, 1) := by decide +kernel
theorem dX9_slow_37 : decode cX9_slow 37 = .ok (.aload_n 0, 1) := by decide +kernel
theorem dX9_slow_38 : decode cX9_slow 38 = .ok (.getfield 19, 3) := by decide +kernel
theorem dX9_slow_41 : decode cX9_slow 41 = .ok (.iload_n 1, 1) := by decide +kernel
theorem dX9_slow_42 : decode cX9_slow 42 = .ok (.iconst 0, 1) := by decide +kernel
theorem dX9_slow_43 : decode cX9_slow 43 = .ok (.iload_n 3, 1) := by decide +kernel
theorem dX9_slow_44 : decode cX9_slow 44 = .ok (.invokevirtual 132, 3) := by decide +kernel
theorem dX9_slow_47 : decode cX9_slow 47 = .ok (.aload_n 0, 1) := by decide +kernel
theorem dX9_slow_48 : decode cX9_slow 48 = .ok (.getfield 33, 3) := by decide +kernel
theorem dX9_slow_51 : decode cX9_slow 51 = .ok (.getfield 129, 3) := by decide +kernel
theorem dX9_slow_54 : decode cX9_slow 54 = .ok (.iload_n 1, 1) := by decide +kernel
theorem dX9_slow_55 : decode cX9_slow 55 = .ok (.iload_n 2, 1) := by decide +kernel
theorem dX9_slow_56 : decode cX9_slow 56 = .ok (.iastore, 1) := by decide +kernel
theorem dX9_slow_57 : decode cX9_slow 57 = .ok (.iload_n 3, 1) := by decide +kernel
theorem dX9_slow_58 : decode cX9_slow 58 = .ok (.ireturn, 1) := by decide +kernel
set_option maxRecDepth 20000 in
theorem ggX9_turn_X2_hasGate : GoodIn wsX9_turn wsX2_hasGate := goodIn_r _ [9, 10, 40, 41, 42, 43, 44, 45, 46, 47, 48, 49, 50] (by decide +kernel) (by decide +kernel)
set_option maxRecDepth 20000 in
theorem gX9_turn_X2_hasGate : GoodIn wsX9_turn (wsV RX9 116 RX2 yX2_hasGate wsX2_hasGate) := goodIn_app (goodIn_of _ (by decide +kernel)) ggX9_turn_X2_hasGate
set_option maxRecDepth 20000 in
theorem ggX9_turn_X0_add : GoodIn wsX9_turn wsX0_add := goodIn_r _ [15, 16, 17, 18, 19, 20, 21, 22, 14, 23, 51, 52, 53, 54] (by decide +kernel) (by decide +kernel)
set_option maxRecDepth 20000 in
theorem gX9_turn_X0_add : GoodIn wsX9_turn (wsV RX9 132 RX0 yX0_add wsX0_add) := goodIn_app (goodIn_of _ (by decide +kernel)) ggX9_turn_X0_add
theorem dX9_turn_0 : decode cX9_turn 0 = .ok (.aload_n 0, 1) := by decide +kernel
theorem dX9_turn_1 : decode cX9_turn 1 = .ok (.getfield 75, 3) := by decide +kernel
theorem dX9_turn_4 : decode cX9_turn 4 = .ok (.iload_n 1, 1) := by decide +kernel
theorem dX9_turn_5 : decode cX9_turn 5 = .ok (.invokevirtual 116, 3) := by decide +kernel
theorem dX9_turn_8 : decode cX9_turn 8 = .ok (.ifCond .ne 5, 3) := by decide +kernel
theorem dX9_turn_11 : decode cX9_turn 11 = .ok (.iconst (-1), 1) := by decide +kernel
theorem dX9_turn_12 : decode cX9_turn 12 = .ok (.ireturn, 1) := by decide +kernel
theorem dX9_turn_13 : decode cX9_turn 13 = .ok (.iload_n 2, 1) := by decide +kernel
theorem dX9_turn_14 : decode cX9_turn 14 = .ok (.ifCond .lt 8, 3) := by decide +kernel
theorem dX9_turn_17 : decode cX9_turn 17 = .ok (.iload_n 2, 1) := by decide +kernel
theorem dX9_turn_18 : decode cX9_turn 18 = .ok (.iconst 3, 1) := by decide +kernel
theorem dX9_turn_19 : decode cX9_turn 19 = .ok (.if_icmp .le 6, 3) := by decide +kernel
theorem dX9_turn_22 : decode cX9_turn 22 = .ok (.bipush (-2), 2) := by decide +kernel
theorem dX9_turn_24 : decode cX9_turn 24 = .ok (.ireturn, 1) := by decide +kernel
theorem dX9_turn_25 : decode cX9_turn 25 = .ok (.aload_n 0, 1) := by decide +kernel
theorem dX9_turn_26 : decode cX9_turn 26 = .ok (.getfield 33, 3) := by decide +kernel
theorem dX9_turn_29 : decode cX9_turn 29 = .ok (.getfield 120, 3) := by decide +kernel
theorem dX9_turn_32 : decode cX9_turn 32 = .ok (.iload_n 1, 1) := by decide +kernel
theorem dX9_turn_33 : decode cX9_turn 33 = .ok (.iaload, 1) := by decide +kernel
theorem dX9_turn_34 : decode cX9_turn 34 = .ok (.istore_n 3, 1) := by decide +kernel
theorem dX9_turn_35 : decode cX9_turn 35 = .ok (.iload_n 3, 1) := by decide +kernel
theorem dX9_turn_36 : decode cX9_turn 36 = .ok (.iconst 4, 1) := by decide +kernel
theorem dX9_turn_37 : decode cX9_turn 37 = .ok (.if_icmp .eq 8, 3) := by decide +kernel
theorem dX9_turn_40 : decode cX9_turn 40 = .ok (.iload_n 3, 1) := by decide +kernel
theorem dX9_turn_41 : decode cX9_turn 41 = .ok (.iload_n 2, 1) := by decide +kernel
theorem dX9_turn_42 : decode cX9_turn 42 = .ok (.if_icmp .ne 6, 3) := by decide +kernel
theorem dX9_turn_45 : decode cX9_turn 45 = .ok (.bipush (-3), 2) := by decide +kernel
theorem dX9_turn_47 : decode cX9_turn 47 = .ok (.ireturn, 1) := by decide +kernel
theorem dX9_turn_48 : decode cX9_turn 48 = .ok (.aload_n 0, 1) := by decide +kernel
theorem dX9_turn_49 : decode cX9_turn 49 = .ok (.getfield 19, 3) := by decide +kernel
theorem dX9_turn_52 : decode cX9_turn 52 = .ok (.iload_n 1, 1) := by decide +kernel
theorem dX9_turn_53 : decode cX9_turn 53 = .ok (.iconst 1, 1) := by decide +kernel
theorem dX9_turn_54 : decode cX9_turn 54 = .ok (.iload_n 3, 1) := by decide +kernel
theorem dX9_turn_55 : decode cX9_turn 55 = .ok (.invokevirtual 132, 3) := by decide +kernel
theorem dX9_turn_58 : decode cX9_turn 58 = .ok (.aload_n 0, 1) := by decide +kernel
theorem dX9_turn_59 : decode cX9_turn 59 = .ok (.getfield 33, 3) := by decide +kernel
theorem dX9_turn_62 : decode cX9_turn 62 = .ok (.getfield 120, 3) := by decide +kernel
theorem dX9_turn_65 : decode cX9_turn 65 = .ok (.iload_n 1, 1) := by decide +kernel
theorem dX9_turn_66 : decode cX9_turn 66 = .ok (.iload_n 2, 1) := by decide +kernel
theorem dX9_turn_67 : decode cX9_turn 67 = .ok (.iastore, 1) := by decide +kernel
theorem dX9_turn_68 : decode cX9_turn 68 = .ok (.iload_n 3, 1) := by decide +kernel
theorem dX9_turn_69 : decode cX9_turn 69 = .ok (.ireturn, 1) := by decide +kernel
set_option maxRecDepth 20000 in
theorem ggX9_undo_X0_takeBack : GoodIn wsX9_undo wsX0_takeBack := goodIn_r _ [8, 9, 10, 11, 12, 13, 27, 28, 29, 30, 31, 32, 33] (by decide +kernel) (by decide +kernel)
set_option maxRecDepth 20000 in
theorem gX9_undo_X0_takeBack : GoodIn wsX9_undo (wsV RX9 136 RX0 yX0_takeBack wsX0_takeBack) := goodIn_app (goodIn_of _ (by decide +kernel)) ggX9_undo_X0_takeBack
theorem dX9_undo_0 : decode cX9_undo 0 = .ok (.aload_n 0, 1) := by decide +kernel
theorem dX9_undo_1 : decode cX9_undo 1 = .ok (.getfield 19, 3) := by decide +kernel
theorem dX9_undo_4 : decode cX9_undo 4 = .ok (.getfield 105, 3) := by decide +kernel
theorem dX9_undo_7 : decode cX9_undo 7 = .ok (.ifCond .gt 6, 3) := by decide +kernel
theorem dX9_undo_10 : decode cX9_undo 10 = .ok (.bipush (-3), 2) := by decide +kernel
theorem dX9_undo_12 : decode cX9_undo 12 = .ok (.ireturn, 1) := by decide +kernel
theorem dX9_undo_13 : decode cX9_undo 13 = .ok (.aload_n 0, 1) := by decide +kernel
theorem dX9_undo_14 : decode cX9_undo 14 = .ok (.getfield 19, 3) := by decide +kernel
theorem dX9_undo_17 : decode cX9_undo 17 = .ok (.dup, 1) := by decide +kernel
theorem dX9_undo_18 : decode cX9_undo 18 = .ok (.getfield 105, 3) := by decide +kernel
theorem dX9_undo_21 : decode cX9_undo 21 = .ok (.iconst 1, 1) := by decide +kernel
theorem dX9_undo_22 : decode cX9_undo 22 = .ok (.isub, 1) := by decide +kernel
theorem dX9_undo_23 : decode cX9_undo 23 = .ok (.putfield 105, 3) := by decide +kernel
theorem dX9_undo_26 : decode cX9_undo 26 = .ok (.aload_n 0, 1) := by decide +kernel
theorem dX9_undo_27 : decode cX9_undo 27 = .ok (.getfield 19, 3) := by decide +kernel
theorem dX9_undo_30 : decode cX9_undo 30 = .ok (.aload_n 0, 1) := by decide +kernel
theorem dX9_undo_31 : decode cX9_undo 31 = .ok (.getfield 33, 3) := by decide +kernel
theorem dX9_undo_34 : decode cX9_undo 34 = .ok (.aload_n 0, 1) := by decide +kernel
theorem dX9_undo_35 : decode cX9_undo 35 = .ok (.getfield 19, 3) := by decide +kernel
theorem dX9_undo_38 : decode cX9_undo 38 = .ok (.getfield 105, 3) := by decide +kernel
theorem dX9_undo_41 : decode cX9_undo 41 = .ok (.invokevirtual 136, 3) := by decide +kernel
theorem dX9_undo_44 : decode cX9_undo 44 = .ok (.aload_n 0, 1) := by decide +kernel
theorem dX9_undo_45 : decode cX9_undo 45 = .ok (.getfield 19, 3) := by decide +kernel
theorem dX9_undo_48 : decode cX9_undo 48 = .ok (.getfield 105, 3) := by decide +kernel
theorem dX9_undo_51 : decode cX9_undo 51 = .ok (.ireturn, 1) := by decide +kernel
set_option maxRecDepth 20000 in
theorem ggX9_path_X2_hasPath : GoodIn wsX9_path wsX2_hasPath := goodIn_r _ [10, 11, 35, 36, 37, 38, 39, 40, 41, 42, 43, 44, 45] (by decide +kernel) (by decide +kernel)
set_option maxRecDepth 20000 in
theorem gX9_path_X2_hasPath : GoodIn wsX9_path (wsV RX9 140 RX2 yX2_hasPath wsX2_hasPath) := goodIn_app (goodIn_of _ (by decide +kernel)) ggX9_path_X2_hasPath
set_option maxRecDepth 20000 in
theorem ggX9_path_X2_lengthOf : GoodIn wsX9_path wsX2_lengthOf := goodIn_r _ [15, 16, 17, 35, 36, 37, 38, 39, 40, 41, 42, 43, 44, 45] (by decide +kernel) (by decide +kernel)
set_option maxRecDepth 20000 in
theorem gX9_path_X2_lengthOf : GoodIn wsX9_path (wsV RX9 149 RX2 yX2_lengthOf wsX2_lengthOf) := goodIn_app (goodIn_of _ (by decide +kernel)) ggX9_path_X2_lengthOf
set_option maxRecDepth 20000 in
theorem ggX9_path_X2_stepOf : GoodIn wsX9_path wsX2_stepOf := goodIn_r _ [21, 16, 17, 35, 36, 37, 38, 39, 40, 41, 42, 43, 44, 45] (by decide +kernel) (by decide +kernel)
set_option maxRecDepth 20000 in
theorem gX9_path_X2_stepOf : GoodIn wsX9_path (wsV RX9 153 RX2 yX2_stepOf wsX2_stepOf) := goodIn_app (goodIn_of _ (by decide +kernel)) ggX9_path_X2_stepOf
theorem dX9_path_0 : decode cX9_path 0 = .ok (.aload_n 0, 1) := by decide +kernel
theorem dX9_path_1 : decode cX9_path 1 = .ok (.getfield 75, 3) := by decide +kernel
theorem dX9_path_4 : decode cX9_path 4 = .ok (.iload_n 1, 1) := by decide +kernel
theorem dX9_path_5 : decode cX9_path 5 = .ok (.invokevirtual 140, 3) := by decide +kernel
theorem dX9_path_8 : decode cX9_path 8 = .ok (.ifCond .ne 5, 3) := by decide +kernel
theorem dX9_path_11 : decode cX9_path 11 = .ok (.iconst (-1), 1) := by decide +kernel
theorem dX9_path_12 : decode cX9_path 12 = .ok (.ireturn, 1) := by decide +kernel
theorem dX9_path_13 : decode cX9_path 13 = .ok (.iload_n 2, 1) := by decide +kernel
theorem dX9_path_14 : decode cX9_path 14 = .ok (.ifCond .ge 6, 3) := by decide +kernel
theorem dX9_path_17 : decode cX9_path 17 = .ok (.bipush (-2), 2) := by decide +kernel
theorem dX9_path_19 : decode cX9_path 19 = .ok (.ireturn, 1) := by decide +kernel
theorem dX9_path_20 : decode cX9_path 20 = .ok (.iload_n 2, 1) := by decide +kernel
theorem dX9_path_21 : decode cX9_path 21 = .ok (.tableswitch 63 0 2 #[27, 37, 47], 27) := by decide +kernel
theorem dX9_path_48 : decode cX9_path 48 = .ok (.aload_n 0, 1) := by decide +kernel
theorem dX9_path_49 : decode cX9_path 49 = .ok (.getfield 75, 3) := by decide +kernel
theorem dX9_path_52 : decode cX9_path 52 = .ok (.getfield 143, 3) := by decide +kernel
theorem dX9_path_55 : decode cX9_path 55 = .ok (.iload_n 1, 1) := by decide +kernel
theorem dX9_path_56 : decode cX9_path 56 = .ok (.iaload, 1) := by decide +kernel
theorem dX9_path_57 : decode cX9_path 57 = .ok (.ireturn, 1) := by decide +kernel
theorem dX9_path_58 : decode cX9_path 58 = .ok (.aload_n 0, 1) := by decide +kernel
theorem dX9_path_59 : decode cX9_path 59 = .ok (.getfield 75, 3) := by decide +kernel
theorem dX9_path_62 : decode cX9_path 62 = .ok (.getfield 146, 3) := by decide +kernel
theorem dX9_path_65 : decode cX9_path 65 = .ok (.iload_n 1, 1) := by decide +kernel
theorem dX9_path_66 : decode cX9_path 66 = .ok (.iaload, 1) := by decide +kernel
theorem dX9_path_67 : decode cX9_path 67 = .ok (.ireturn, 1) := by decide +kernel
theorem dX9_path_68 : decode cX9_path 68 = .ok (.aload_n 0, 1) := by decide +kernel
theorem dX9_path_69 : decode cX9_path 69 = .ok (.getfield 75, 3) := by decide +kernel
theorem dX9_path_72 : decode cX9_path 72 = .ok (.iload_n 1, 1) := by decide +kernel
theorem dX9_path_73 : decode cX9_path 73 = .ok (.aload_n 0, 1) := by decide +kernel
theorem dX9_path_74 : decode cX9_path 74 = .ok (.getfield 33, 3) := by decide +kernel
theorem dX9_path_77 : decode cX9_path 77 = .ok (.getfield 129, 3) := by decide +kernel
theorem dX9_path_80 : decode cX9_path 80 = .ok (.invokevirtual 149, 3) := by decide +kernel
theorem dX9_path_83 : decode cX9_path 83 = .ok (.ireturn, 1) := by decide +kernel
theorem dX9_path_84 : decode cX9_path 84 = .ok (.aload_n 0, 1) := by decide +kernel
theorem dX9_path_85 : decode cX9_path 85 = .ok (.getfield 75, 3) := by decide +kernel
theorem dX9_path_88 : decode cX9_path 88 = .ok (.iload_n 1, 1) := by decide +kernel
theorem dX9_path_89 : decode cX9_path 89 = .ok (.iload_n 2, 1) := by decide +kernel
theorem dX9_path_90 : decode cX9_path 90 = .ok (.iconst 3, 1) := by decide +kernel
theorem dX9_path_91 : decode cX9_path 91 = .ok (.isub, 1) := by decide +kernel
theorem dX9_path_92 : decode cX9_path 92 = .ok (.invokevirtual 153, 3) := by decide +kernel
theorem dX9_path_95 : decode cX9_path 95 = .ok (.ireturn, 1) := by decide +kernel
set_option maxRecDepth 20000 in
theorem ggX9_longest_X2_lengthOf : GoodIn wsX9_longest wsX2_lengthOf := goodIn_r _ [9, 10, 11, 25, 26, 27, 28, 29, 30, 31, 32, 33, 34, 35] (by decide +kernel) (by decide +kernel)
set_option maxRecDepth 20000 in
theorem gX9_longest_X2_lengthOf : GoodIn wsX9_longest (wsV RX9 149 RX2 yX2_lengthOf wsX2_lengthOf) := goodIn_app (goodIn_of _ (by decide +kernel)) ggX9_longest_X2_lengthOf
theorem dX9_longest_0 : decode cX9_longest 0 = .ok (.iload_n 1, 1) := by decide +kernel
theorem dX9_longest_1 : decode cX9_longest 1 = .ok (.ifCond .lt 8, 3) := by decide +kernel
theorem dX9_longest_4 : decode cX9_longest 4 = .ok (.iload_n 1, 1) := by decide +kernel
theorem dX9_longest_5 : decode cX9_longest 5 = .ok (.iconst 1, 1) := by decide +kernel
theorem dX9_longest_6 : decode cX9_longest 6 = .ok (.if_icmp .le 6, 3) := by decide +kernel
theorem dX9_longest_9 : decode cX9_longest 9 = .ok (.bipush (-2), 2) := by decide +kernel
theorem dX9_longest_11 : decode cX9_longest 11 = .ok (.ireturn, 1) := by decide +kernel
theorem dX9_longest_12 : decode cX9_longest 12 = .ok (.bipush (-9), 2) := by decide +kernel
theorem dX9_longest_14 : decode cX9_longest 14 = .ok (.istore_n 2, 1) := by decide +kernel
theorem dX9_longest_15 : decode cX9_longest 15 = .ok (.bipush (-9), 2) := by decide +kernel
theorem dX9_longest_17 : decode cX9_longest 17 = .ok (.istore_n 3, 1) := by decide +kernel
theorem dX9_longest_18 : decode cX9_longest 18 = .ok (.iconst 0, 1) := by decide +kernel
theorem dX9_longest_19 : decode cX9_longest 19 = .ok (.istore 4, 2) := by decide +kernel
theorem dX9_longest_21 : decode cX9_longest 21 = .ok (.iload 4, 2) := by decide +kernel
theorem dX9_longest_23 : decode cX9_longest 23 = .ok (.aload_n 0, 1) := by decide +kernel
theorem dX9_longest_24 : decode cX9_longest 24 = .ok (.getfield 75, 3) := by decide +kernel
theorem dX9_longest_27 : decode cX9_longest 27 = .ok (.getfield 113, 3) := by decide +kernel
theorem dX9_longest_30 : decode cX9_longest 30 = .ok (.if_icmp .ge 39, 3) := by decide +kernel
theorem dX9_longest_33 : decode cX9_longest 33 = .ok (.aload_n 0, 1) := by decide +kernel
theorem dX9_longest_34 : decode cX9_longest 34 = .ok (.getfield 75, 3) := by decide +kernel
theorem dX9_longest_37 : decode cX9_longest 37 = .ok (.iload 4, 2) := by decide +kernel
theorem dX9_longest_39 : decode cX9_longest 39 = .ok (.aload_n 0, 1) := by decide +kernel
theorem dX9_longest_40 : decode cX9_longest 40 = .ok (.getfield 33, 3) := by decide +kernel
theorem dX9_longest_43 : decode cX9_longest 43 = .ok (.getfield 129, 3) := by decide +kernel
theorem dX9_longest_46 : decode cX9_longest 46 = .ok (.invokevirtual 149, 3) := by decide +kernel
theorem dX9_longest_49 : decode cX9_longest 49 = .ok (.istore 5, 2) := by decide +kernel
theorem dX9_longest_51 : decode cX9_longest 51 = .ok (.iload 5, 2) := by decide +kernel
theorem dX9_longest_53 : decode cX9_longest 53 = .ok (.iload_n 2, 1) := by decide +kernel
theorem dX9_longest_54 : decode cX9_longest 54 = .ok (.if_icmp .le 9, 3) := by decide +kernel
theorem dX9_longest_57 : decode cX9_longest 57 = .ok (.iload 5, 2) := by decide +kernel
theorem dX9_longest_59 : decode cX9_longest 59 = .ok (.istore_n 2, 1) := by decide +kernel
theorem dX9_longest_60 : decode cX9_longest 60 = .ok (.iload 4, 2) := by decide +kernel
theorem dX9_longest_62 : decode cX9_longest 62 = .ok (.istore_n 3, 1) := by decide +kernel
theorem dX9_longest_63 : decode cX9_longest 63 = .ok (.iinc 4 1, 3) := by decide +kernel
theorem dX9_longest_66 : decode cX9_longest 66 = .ok (.goto (-45), 3) := by decide +kernel
theorem dX9_longest_69 : decode cX9_longest 69 = .ok (.iload_n 1, 1) := by decide +kernel
theorem dX9_longest_70 : decode cX9_longest 70 = .ok (.ifCond .ne 7, 3) := by decide +kernel
theorem dX9_longest_73 : decode cX9_longest 73 = .ok (.iload_n 2, 1) := by decide +kernel
theorem dX9_longest_74 : decode cX9_longest 74 = .ok (.goto 4, 3) := by decide +kernel
theorem dX9_longest_77 : decode cX9_longest 77 = .ok (.iload_n 3, 1) := by decide +kernel
theorem dX9_longest_78 : decode cX9_longest 78 = .ok (.ireturn, 1) := by decide +kernel
set_option maxRecDepth 20000 in
theorem ggX9_value_X2_hasGate : GoodIn wsX9_value wsX2_hasGate := goodIn_r _ [10, 11, 75, 76, 77, 78, 79, 80, 81, 82, 83, 84, 85] (by decide +kernel) (by decide +kernel)
set_option maxRecDepth 20000 in
theorem gX9_value_X2_hasGate : GoodIn wsX9_value (wsV RX9 116 RX2 yX2_hasGate wsX2_hasGate) := goodIn_app (goodIn_of _ (by decide +kernel)) ggX9_value_X2_hasGate
set_option maxRecDepth 20000 in
theorem ggX9_value_X2_hasPair : GoodIn wsX9_value wsX2_hasPair := goodIn_r _ [15, 16, 17, 18, 9, 19, 20, 21, 22, 23, 24, 75, 76, 77, 78, 79, 80, 81, 82, 83, 84, 85] (by decide +kernel) (by decide +kernel)
set_option maxRecDepth 20000 in
theorem gX9_value_X2_hasPair : GoodIn wsX9_value (wsV RX9 157 RX2 yX2_hasPair wsX2_hasPair) := goodIn_app (goodIn_of _ (by decide +kernel)) ggX9_value_X2_hasPair
set_option maxRecDepth 20000 in
theorem ggX9_value_X1_settle : GoodIn wsX9_value wsX1_settle := goodIn_r _ [29, 30, 31, 32, 33, 34, 35, 36, 37, 38, 28, 39, 40, 41, 42, 43, 44, 45, 46, 47, 48, 49, 50, 51, 52, 53, 54, 55, 75, 76, 77, 78, 79, 80, 81, 82, 83, 84, 85, 72, 73, 74] (by decide +kernel) (by decide +kernel)
set_option maxRecDepth 20000 in
theorem gX9_value_X1_settle : GoodIn wsX9_value (wsV RX9 160 RX1 yX1_settle wsX1_settle) := goodIn_app (goodIn_of _ (by decide +kernel)) ggX9_value_X1_settle
theorem dX9_value_0 : decode cX9_value 0 = .ok (.aload_n 0, 1) := by decide +kernel
theorem dX9_value_1 : decode cX9_value 1 = .ok (.getfield 75, 3) := by decide +kernel
theorem dX9_value_4 : decode cX9_value 4 = .ok (.iload_n 1, 1) := by decide +kernel
theorem dX9_value_5 : decode cX9_value 5 = .ok (.invokevirtual 116, 3) := by decide +kernel
theorem dX9_value_8 : decode cX9_value 8 = .ok (.ifCond .ne 5, 3) := by decide +kernel
theorem dX9_value_11 : decode cX9_value 11 = .ok (.iconst (-1), 1) := by decide +kernel
theorem dX9_value_12 : decode cX9_value 12 = .ok (.ireturn, 1) := by decide +kernel
theorem dX9_value_13 : decode cX9_value 13 = .ok (.aload_n 0, 1) := by decide +kernel
theorem dX9_value_14 : decode cX9_value 14 = .ok (.getfield 75, 3) := by decide +kernel
theorem dX9_value_17 : decode cX9_value 17 = .ok (.iload_n 2, 1) := by decide +kernel
theorem dX9_value_18 : decode cX9_value 18 = .ok (.invokevirtual 157, 3) := by decide +kernel
theorem dX9_value_21 : decode cX9_value 21 = .ok (.ifCond .ne 6, 3) := by decide +kernel
theorem dX9_value_24 : decode cX9_value 24 = .ok (.bipush (-2), 2) := by decide +kernel
theorem dX9_value_26 : decode cX9_value 26 = .ok (.ireturn, 1) := by decide +kernel
theorem dX9_value_27 : decode cX9_value 27 = .ok (.aload_n 0, 1) := by decide +kernel
theorem dX9_value_28 : decode cX9_value 28 = .ok (.getfield 47, 3) := by decide +kernel
theorem dX9_value_31 : decode cX9_value 31 = .ok (.aload_n 0, 1) := by decide +kernel
theorem dX9_value_32 : decode cX9_value 32 = .ok (.getfield 75, 3) := by decide +kernel
theorem dX9_value_35 : decode cX9_value 35 = .ok (.aload_n 0, 1) := by decide +kernel
theorem dX9_value_36 : decode cX9_value 36 = .ok (.getfield 33, 3) := by decide +kernel
theorem dX9_value_39 : decode cX9_value 39 = .ok (.getfield 120, 3) := by decide +kernel
theorem dX9_value_42 : decode cX9_value 42 = .ok (.iload_n 2, 1) := by decide +kernel
theorem dX9_value_43 : decode cX9_value 43 = .ok (.invokevirtual 160, 3) := by decide +kernel
theorem dX9_value_46 : decode cX9_value 46 = .ok (.aload_n 0, 1) := by decide +kernel
theorem dX9_value_47 : decode cX9_value 47 = .ok (.getfield 47, 3) := by decide +kernel
theorem dX9_value_50 : decode cX9_value 50 = .ok (.getfield 164, 3) := by decide +kernel
theorem dX9_value_53 : decode cX9_value 53 = .ok (.bipush 10, 2) := by decide +kernel
theorem dX9_value_55 : decode cX9_value 55 = .ok (.iload_n 1, 1) := by decide +kernel
theorem dX9_value_56 : decode cX9_value 56 = .ok (.iadd, 1) := by decide +kernel
theorem dX9_value_57 : decode cX9_value 57 = .ok (.iaload, 1) := by decide +kernel
theorem dX9_value_58 : decode cX9_value 58 = .ok (.ireturn, 1) := by decide +kernel
set_option maxRecDepth 20000 in
theorem ggX9_tests_X2_hasPath : GoodIn wsX9_tests wsX2_hasPath := goodIn_r _ [9, 10, 77, 78, 79, 80, 81, 82, 83, 84, 85, 86, 87] (by decide +kernel) (by decide +kernel)
set_option maxRecDepth 20000 in
theorem gX9_tests_X2_hasPath : GoodIn wsX9_tests (wsV RX9 140 RX2 yX2_hasPath wsX2_hasPath) := goodIn_app (goodIn_of _ (by decide +kernel)) ggX9_tests_X2_hasPath
set_option maxRecDepth 20000 in
theorem ggX9_tests_X2_hasPair : GoodIn wsX9_tests wsX2_hasPair := goodIn_r _ [14, 15, 16, 17, 8, 18, 19, 20, 21, 22, 23, 77, 78, 79, 80, 81, 82, 83, 84, 85, 86, 87] (by decide +kernel) (by decide +kernel)
set_option maxRecDepth 20000 in
theorem gX9_tests_X2_hasPair : GoodIn wsX9_tests (wsV RX9 157 RX2 yX2_hasPair wsX2_hasPair) := goodIn_app (goodIn_of _ (by decide +kernel)) ggX9_tests_X2_hasPair
set_option maxRecDepth 20000 in
theorem ggX9_tests_X1_settle : GoodIn wsX9_tests wsX1_settle := goodIn_r _ [28, 29, 30, 31, 32, 33, 34, 35, 36, 37, 27, 38, 39, 40, 41, 42, 43, 44, 45, 46, 47, 48, 49, 50, 51, 52, 53, 54, 77, 78, 79, 80, 81, 82, 83, 84, 85, 86, 87, 88, 89, 90] (by decide +kernel) (by decide +kernel)
set_option maxRecDepth 20000 in
theorem gX9_tests_X1_settle : GoodIn wsX9_tests (wsV RX9 160 RX1 yX1_settle wsX1_settle) := goodIn_app (goodIn_of _ (by decide +kernel)) ggX9_tests_X1_settle
set_option maxRecDepth 20000 in
theorem ggX9_tests_X1_howFar : GoodIn wsX9_tests wsX1_howFar := goodIn_r _ [58, 30, 59, 60, 31, 32, 88, 89, 90, 77, 78, 79, 80, 81, 82, 83, 84, 85, 86, 87] (by decide +kernel) (by decide +kernel)
set_option maxRecDepth 20000 in
theorem gX9_tests_X1_howFar : GoodIn wsX9_tests (wsV RX9 167 RX1 yX1_howFar wsX1_howFar) := goodIn_app (goodIn_of _ (by decide +kernel)) ggX9_tests_X1_howFar
theorem dX9_tests_0 : decode cX9_tests 0 = .ok (.aload_n 0, 1) := by decide +kernel
theorem dX9_tests_1 : decode cX9_tests 1 = .ok (.getfield 75, 3) := by decide +kernel
theorem dX9_tests_4 : decode cX9_tests 4 = .ok (.iload_n 1, 1) := by decide +kernel
theorem dX9_tests_5 : decode cX9_tests 5 = .ok (.invokevirtual 140, 3) := by decide +kernel
theorem dX9_tests_8 : decode cX9_tests 8 = .ok (.ifCond .ne 5, 3) := by decide +kernel
theorem dX9_tests_11 : decode cX9_tests 11 = .ok (.iconst (-1), 1) := by decide +kernel
theorem dX9_tests_12 : decode cX9_tests 12 = .ok (.ireturn, 1) := by decide +kernel
theorem dX9_tests_13 : decode cX9_tests 13 = .ok (.aload_n 0, 1) := by decide +kernel
theorem dX9_tests_14 : decode cX9_tests 14 = .ok (.getfield 75, 3) := by decide +kernel
theorem dX9_tests_17 : decode cX9_tests 17 = .ok (.iload_n 2, 1) := by decide +kernel
theorem dX9_tests_18 : decode cX9_tests 18 = .ok (.invokevirtual 157, 3) := by decide +kernel
theorem dX9_tests_21 : decode cX9_tests 21 = .ok (.ifCond .ne 6, 3) := by decide +kernel
theorem dX9_tests_24 : decode cX9_tests 24 = .ok (.bipush (-2), 2) := by decide +kernel
theorem dX9_tests_26 : decode cX9_tests 26 = .ok (.ireturn, 1) := by decide +kernel
theorem dX9_tests_27 : decode cX9_tests 27 = .ok (.aload_n 0, 1) := by decide +kernel
theorem dX9_tests_28 : decode cX9_tests 28 = .ok (.getfield 47, 3) := by decide +kernel
theorem dX9_tests_31 : decode cX9_tests 31 = .ok (.aload_n 0, 1) := by decide +kernel
theorem dX9_tests_32 : decode cX9_tests 32 = .ok (.getfield 75, 3) := by decide +kernel
theorem dX9_tests_35 : decode cX9_tests 35 = .ok (.aload_n 0, 1) := by decide +kernel
theorem dX9_tests_36 : decode cX9_tests 36 = .ok (.getfield 33, 3) := by decide +kernel
theorem dX9_tests_39 : decode cX9_tests 39 = .ok (.getfield 120, 3) := by decide +kernel
theorem dX9_tests_42 : decode cX9_tests 42 = .ok (.iload_n 2, 1) := by decide +kernel
theorem dX9_tests_43 : decode cX9_tests 43 = .ok (.invokevirtual 160, 3) := by decide +kernel
theorem dX9_tests_46 : decode cX9_tests 46 = .ok (.aload_n 0, 1) := by decide +kernel
theorem dX9_tests_47 : decode cX9_tests 47 = .ok (.getfield 47, 3) := by decide +kernel
theorem dX9_tests_50 : decode cX9_tests 50 = .ok (.aload_n 0, 1) := by decide +kernel
theorem dX9_tests_51 : decode cX9_tests 51 = .ok (.getfield 75, 3) := by decide +kernel
theorem dX9_tests_54 : decode cX9_tests 54 = .ok (.iload_n 1, 1) := by decide +kernel
theorem dX9_tests_55 : decode cX9_tests 55 = .ok (.invokevirtual 167, 3) := by decide +kernel
theorem dX9_tests_58 : decode cX9_tests 58 = .ok (.ireturn, 1) := by decide +kernel
set_option maxRecDepth 20000 in
theorem ggX9_best_X2_hasPath : GoodIn wsX9_best wsX2_hasPath := goodIn_r _ [9, 10, 111, 112, 113, 114, 115, 116, 117, 118, 119, 120, 121] (by decide +kernel) (by decide +kernel)
set_option maxRecDepth 20000 in
theorem gX9_best_X2_hasPath : GoodIn wsX9_best (wsV RX9 140 RX2 yX2_hasPath wsX2_hasPath) := goodIn_app (goodIn_of _ (by decide +kernel)) ggX9_best_X2_hasPath
set_option maxRecDepth 20000 in
theorem ggX9_best_X3_fitTo : GoodIn wsX9_best wsX3_fitTo := goodIn_r _ [15, 16, 17, 18, 19, 20, 14, 21, 22, 23, 24, 25, 26, 27, 28, 29, 30, 31, 32, 33, 8, 34, 35, 36, 37, 38, 39, 40, 41, 42, 43, 44, 45, 46, 47, 48, 49, 50, 51, 52, 53, 54, 55, 56, 57, 58, 59, 60, 61, 62, 63, 64, 65, 66, 67, 68, 69, 70, 71, 72, 73, 74, 75, 76, 77, 78, 79, 80, 81, 82, 83, 84, 85, 111, 112, 113, 114, 115, 116, 117, 118, 119, 120, 121, 122, 123, 124, 125, 126, 127, 128, 129, 130] (by decide +kernel) (by decide +kernel)
set_option maxRecDepth 20000 in
theorem gX9_best_X3_fitTo : GoodIn wsX9_best (wsV RX9 171 RX3 yX3_fitTo wsX3_fitTo) := goodIn_app (goodIn_of _ (by decide +kernel)) ggX9_best_X3_fitTo
set_option maxRecDepth 20000 in
theorem ggX9_best_X3_provesPath : GoodIn wsX9_best wsX3_provesPath := goodIn_r _ [89, 23, 24, 122, 123, 124, 125, 126, 127] (by decide +kernel) (by decide +kernel)
set_option maxRecDepth 20000 in
theorem gX9_best_X3_provesPath : GoodIn wsX9_best (wsV RX9 175 RX3 yX3_provesPath wsX3_provesPath) := goodIn_app (goodIn_of _ (by decide +kernel)) ggX9_best_X3_provesPath
set_option maxRecDepth 20000 in
theorem ggX9_best_X3_isLaunched : GoodIn wsX9_best wsX3_isLaunched := goodIn_r _ [93, 30, 94, 40, 41, 8, 42, 43, 122, 123, 124, 125, 126, 127, 111, 112, 113, 114, 115, 116, 117, 118, 119, 120, 121] (by decide +kernel) (by decide +kernel)
set_option maxRecDepth 20000 in
theorem gX9_best_X3_isLaunched : GoodIn wsX9_best (wsV RX9 179 RX3 yX3_isLaunched wsX3_isLaunched) := goodIn_app (goodIn_of _ (by decide +kernel)) ggX9_best_X3_isLaunched
theorem dX9_best_0 : decode cX9_best 0 = .ok (.aload_n 0, 1) := by decide +kernel
theorem dX9_best_1 : decode cX9_best 1 = .ok (.getfield 75, 3) := by decide +kernel
theorem dX9_best_4 : decode cX9_best 4 = .ok (.iload_n 1, 1) := by decide +kernel
theorem dX9_best_5 : decode cX9_best 5 = .ok (.invokevirtual 140, 3) := by decide +kernel
theorem dX9_best_8 : decode cX9_best 8 = .ok (.ifCond .ne 5, 3) := by decide +kernel
theorem dX9_best_11 : decode cX9_best 11 = .ok (.iconst (-1), 1) := by decide +kernel
theorem dX9_best_12 : decode cX9_best 12 = .ok (.ireturn, 1) := by decide +kernel
theorem dX9_best_13 : decode cX9_best 13 = .ok (.iload_n 2, 1) := by decide +kernel
theorem dX9_best_14 : decode cX9_best 14 = .ok (.ifCond .lt 28, 3) := by decide +kernel
theorem dX9_best_17 : decode cX9_best 17 = .ok (.iload_n 2, 1) := by decide +kernel
theorem dX9_best_18 : decode cX9_best 18 = .ok (.iconst 1, 1) := by decide +kernel
theorem dX9_best_19 : decode cX9_best 19 = .ok (.if_icmp .gt 23, 3) := by decide +kernel
theorem dX9_best_22 : decode cX9_best 22 = .ok (.iload_n 3, 1) := by decide +kernel
theorem dX9_best_23 : decode cX9_best 23 = .ok (.ifCond .lt 19, 3) := by decide +kernel
theorem dX9_best_26 : decode cX9_best 26 = .ok (.iload_n 3, 1) := by decide +kernel
theorem dX9_best_27 : decode cX9_best 27 = .ok (.iconst 2, 1) := by decide +kernel
theorem dX9_best_28 : decode cX9_best 28 = .ok (.if_icmp .gt 14, 3) := by decide +kernel
theorem dX9_best_31 : decode cX9_best 31 = .ok (.iload 4, 2) := by decide +kernel
theorem dX9_best_33 : decode cX9_best 33 = .ok (.ifCond .lt 9, 3) := by decide +kernel
theorem dX9_best_36 : decode cX9_best 36 = .ok (.iload 4, 2) := by decide +kernel
theorem dX9_best_38 : decode cX9_best 38 = .ok (.iconst 1, 1) := by decide +kernel
theorem dX9_best_39 : decode cX9_best 39 = .ok (.if_icmp .le 6, 3) := by decide +kernel
theorem dX9_best_42 : decode cX9_best 42 = .ok (.bipush (-2), 2) := by decide +kernel
theorem dX9_best_44 : decode cX9_best 44 = .ok (.ireturn, 1) := by decide +kernel
theorem dX9_best_45 : decode cX9_best 45 = .ok (.aload_n 0, 1) := by decide +kernel
theorem dX9_best_46 : decode cX9_best 46 = .ok (.getfield 54, 3) := by decide +kernel
theorem dX9_best_49 : decode cX9_best 49 = .ok (.aload_n 0, 1) := by decide +kernel
theorem dX9_best_50 : decode cX9_best 50 = .ok (.getfield 75, 3) := by decide +kernel
theorem dX9_best_53 : decode cX9_best 53 = .ok (.aload_n 0, 1) := by decide +kernel
theorem dX9_best_54 : decode cX9_best 54 = .ok (.getfield 33, 3) := by decide +kernel
theorem dX9_best_57 : decode cX9_best 57 = .ok (.getfield 120, 3) := by decide +kernel
theorem dX9_best_60 : decode cX9_best 60 = .ok (.invokevirtual 171, 3) := by decide +kernel
theorem dX9_best_63 : decode cX9_best 63 = .ok (.bipush (-9), 2) := by decide +kernel
theorem dX9_best_65 : decode cX9_best 65 = .ok (.istore 5, 2) := by decide +kernel
theorem dX9_best_67 : decode cX9_best 67 = .ok (.iconst 0, 1) := by decide +kernel
theorem dX9_best_68 : decode cX9_best 68 = .ok (.istore 6, 2) := by decide +kernel
theorem dX9_best_70 : decode cX9_best 70 = .ok (.iconst 0, 1) := by decide +kernel
theorem dX9_best_71 : decode cX9_best 71 = .ok (.istore 7, 2) := by decide +kernel
theorem dX9_best_73 : decode cX9_best 73 = .ok (.iload 7, 2) := by decide +kernel
theorem dX9_best_75 : decode cX9_best 75 = .ok (.sipush 256, 3) := by decide +kernel
theorem dX9_best_78 : decode cX9_best 78 = .ok (.if_icmp .ge 57, 3) := by decide +kernel
theorem dX9_best_81 : decode cX9_best 81 = .ok (.aload_n 0, 1) := by decide +kernel
theorem dX9_best_82 : decode cX9_best 82 = .ok (.getfield 54, 3) := by decide +kernel
theorem dX9_best_85 : decode cX9_best 85 = .ok (.iload 7, 2) := by decide +kernel
theorem dX9_best_87 : decode cX9_best 87 = .ok (.iload_n 1, 1) := by decide +kernel
theorem dX9_best_88 : decode cX9_best 88 = .ok (.iload_n 2, 1) := by decide +kernel
theorem dX9_best_89 : decode cX9_best 89 = .ok (.invokevirtual 175, 3) := by decide +kernel
theorem dX9_best_92 : decode cX9_best 92 = .ok (.ifCond .eq 37, 3) := by decide +kernel
theorem dX9_best_95 : decode cX9_best 95 = .ok (.aload_n 0, 1) := by decide +kernel
theorem dX9_best_96 : decode cX9_best 96 = .ok (.getfield 54, 3) := by decide +kernel
theorem dX9_best_99 : decode cX9_best 99 = .ok (.aload_n 0, 1) := by decide +kernel
theorem dX9_best_100 : decode cX9_best 100 = .ok (.getfield 75, 3) := by decide +kernel
theorem dX9_best_103 : decode cX9_best 103 = .ok (.iload_n 3, 1) := by decide +kernel
theorem dX9_best_104 : decode cX9_best 104 = .ok (.iload 7, 2) := by decide +kernel
theorem dX9_best_106 : decode cX9_best 106 = .ok (.invokevirtual 179, 3) := by decide +kernel
theorem dX9_best_109 : decode cX9_best 109 = .ok (.ifCond .eq 20, 3) := by decide +kernel
theorem dX9_best_112 : decode cX9_best 112 = .ok (.iload 6, 2) := by decide +kernel
theorem dX9_best_114 : decode cX9_best 114 = .ok (.ifCond .ne 8, 3) := by decide +kernel
theorem dX9_best_117 : decode cX9_best 117 = .ok (.iload 7, 2) := by decide +kernel
theorem dX9_best_119 : decode cX9_best 119 = .ok (.goto 5, 3) := by decide +kernel
theorem dX9_best_122 : decode cX9_best 122 = .ok (.iload 5, 2) := by decide +kernel
theorem dX9_best_124 : decode cX9_best 124 = .ok (.istore 5, 2) := by decide +kernel
theorem dX9_best_126 : decode cX9_best 126 = .ok (.iinc 6 1, 3) := by decide +kernel
theorem dX9_best_129 : decode cX9_best 129 = .ok (.iinc 7 1, 3) := by decide +kernel
theorem dX9_best_132 : decode cX9_best 132 = .ok (.goto (-59), 3) := by decide +kernel
theorem dX9_best_135 : decode cX9_best 135 = .ok (.iload 4, 2) := by decide +kernel
theorem dX9_best_137 : decode cX9_best 137 = .ok (.ifCond .ne 8, 3) := by decide +kernel
theorem dX9_best_140 : decode cX9_best 140 = .ok (.iload 5, 2) := by decide +kernel
theorem dX9_best_142 : decode cX9_best 142 = .ok (.goto 5, 3) := by decide +kernel
theorem dX9_best_145 : decode cX9_best 145 = .ok (.iload 6, 2) := by decide +kernel
theorem dX9_best_147 : decode cX9_best 147 = .ok (.ireturn, 1) := by decide +kernel
set_option maxRecDepth 20000 in
theorem ggX9_pruned_X3_fitTo : GoodIn wsX9_pruned wsX3_fitTo := goodIn_r _ [9, 10, 11, 12, 13, 14, 8, 15, 16, 17, 18, 19, 20, 21, 22, 23, 24, 25, 26, 27, 28, 29, 30, 31, 32, 33, 34, 35, 36, 37, 38, 39, 40, 41, 42, 43, 44, 45, 46, 47, 48, 49, 50, 51, 52, 53, 54, 55, 56, 57, 58, 59, 60, 61, 62, 63, 64, 65, 66, 67, 68, 69, 70, 71, 72, 73, 74, 75, 76, 77, 78, 79, 80, 122, 123, 124, 125, 126, 127, 128, 129, 130, 131, 132, 133, 134, 135, 136, 137, 138, 139, 140, 141] (by decide +kernel) (by decide +kernel)
set_option maxRecDepth 20000 in
theorem gX9_pruned_X3_fitTo : GoodIn wsX9_pruned (wsV RX9 171 RX3 yX3_fitTo wsX3_fitTo) := goodIn_app (goodIn_of _ (by decide +kernel)) ggX9_pruned_X3_fitTo
set_option maxRecDepth 20000 in
theorem ggX9_pruned_X3_deadBeginnings : GoodIn wsX9_pruned wsX3_deadBeginnings := goodIn_r _ [84, 21, 85, 86, 87, 88, 8, 89, 23, 90, 91, 92, 93, 94, 95, 28, 96, 97, 98, 70, 71, 72, 73, 16, 99, 100, 101, 102, 103, 104, 105, 122, 123, 124, 125, 126, 127, 128, 129, 130, 131, 132, 133, 134, 135, 136, 137, 138] (by decide +kernel) (by decide +kernel)
set_option maxRecDepth 20000 in
theorem gX9_pruned_X3_deadBeginnings : GoodIn wsX9_pruned (wsV RX9 183 RX3 yX3_deadBeginnings wsX3_deadBeginnings) := goodIn_app (goodIn_of _ (by decide +kernel)) ggX9_pruned_X3_deadBeginnings
theorem dX9_pruned_0 : decode cX9_pruned 0 = .ok (.aload_n 0, 1) := by decide +kernel
theorem dX9_pruned_1 : decode cX9_pruned 1 = .ok (.getfield 54, 3) := by decide +kernel
theorem dX9_pruned_4 : decode cX9_pruned 4 = .ok (.aload_n 0, 1) := by decide +kernel
theorem dX9_pruned_5 : decode cX9_pruned 5 = .ok (.getfield 75, 3) := by decide +kernel
theorem dX9_pruned_8 : decode cX9_pruned 8 = .ok (.aload_n 0, 1) := by decide +kernel
theorem dX9_pruned_9 : decode cX9_pruned 9 = .ok (.getfield 33, 3) := by decide +kernel
theorem dX9_pruned_12 : decode cX9_pruned 12 = .ok (.getfield 120, 3) := by decide +kernel
theorem dX9_pruned_15 : decode cX9_pruned 15 = .ok (.invokevirtual 171, 3) := by decide +kernel
theorem dX9_pruned_18 : decode cX9_pruned 18 = .ok (.aload_n 0, 1) := by decide +kernel
theorem dX9_pruned_19 : decode cX9_pruned 19 = .ok (.getfield 54, 3) := by decide +kernel
theorem dX9_pruned_22 : decode cX9_pruned 22 = .ok (.aload_n 0, 1) := by decide +kernel
theorem dX9_pruned_23 : decode cX9_pruned 23 = .ok (.getfield 75, 3) := by decide +kernel
theorem dX9_pruned_26 : decode cX9_pruned 26 = .ok (.invokevirtual 183, 3) := by decide +kernel
theorem dX9_pruned_29 : decode cX9_pruned 29 = .ok (.ireturn, 1) := by decide +kernel
set_option maxRecDepth 20000 in
theorem ggX9_packed_X3_fitTo : GoodIn wsX9_packed wsX3_fitTo := goodIn_r _ [9, 10, 11, 12, 13, 14, 8, 15, 16, 17, 18, 19, 20, 21, 22, 23, 24, 25, 26, 27, 28, 29, 30, 31, 32, 33, 34, 35, 36, 37, 38, 39, 40, 41, 42, 43, 44, 45, 46, 47, 48, 49, 50, 51, 52, 53, 54, 55, 56, 57, 58, 59, 60, 61, 62, 63, 64, 65, 66, 67, 68, 69, 70, 71, 72, 73, 74, 75, 76, 77, 78, 79, 80, 118, 119, 120, 121, 122, 123, 124, 125, 126, 127, 128, 129, 130, 131, 132, 133, 134, 135, 136, 137] (by decide +kernel) (by decide +kernel)
set_option maxRecDepth 20000 in
theorem gX9_packed_X3_fitTo : GoodIn wsX9_packed (wsV RX9 171 RX3 yX3_fitTo wsX3_fitTo) := goodIn_app (goodIn_of _ (by decide +kernel)) ggX9_packed_X3_fitTo
set_option maxRecDepth 20000 in
theorem ggX9_packed_X3_pack : GoodIn wsX9_packed wsX3_pack := goodIn_r _ [84, 17, 18, 85, 86, 87, 8, 88, 89, 90, 91, 92, 93, 94, 95, 96, 97, 98, 99, 100, 24, 101, 35, 36, 28, 37, 38, 129, 130, 131, 132, 133, 134, 118, 119, 120, 121, 122, 123, 124, 125, 126, 127, 128] (by decide +kernel) (by decide +kernel)
set_option maxRecDepth 20000 in
theorem gX9_packed_X3_pack : GoodIn wsX9_packed (wsV RX9 186 RX3 yX3_pack wsX3_pack) := goodIn_app (goodIn_of _ (by decide +kernel)) ggX9_packed_X3_pack
theorem dX9_packed_0 : decode cX9_packed 0 = .ok (.iload_n 1, 1) := by decide +kernel
theorem dX9_packed_1 : decode cX9_packed 1 = .ok (.ifCond .lt 13, 3) := by decide +kernel
theorem dX9_packed_4 : decode cX9_packed 4 = .ok (.iload_n 1, 1) := by decide +kernel
theorem dX9_packed_5 : decode cX9_packed 5 = .ok (.iconst 2, 1) := by decide +kernel
theorem dX9_packed_6 : decode cX9_packed 6 = .ok (.if_icmp .gt 8, 3) := by decide +kernel
theorem dX9_packed_9 : decode cX9_packed 9 = .ok (.iload_n 2, 1) := by decide +kernel
theorem dX9_packed_10 : decode cX9_packed 10 = .ok (.iconst (-1), 1) := by decide +kernel
theorem dX9_packed_11 : decode cX9_packed 11 = .ok (.if_icmp .ge 6, 3) := by decide +kernel
theorem dX9_packed_14 : decode cX9_packed 14 = .ok (.bipush (-2), 2) := by decide +kernel
theorem dX9_packed_16 : decode cX9_packed 16 = .ok (.ireturn, 1) := by decide +kernel
theorem dX9_packed_17 : decode cX9_packed 17 = .ok (.aload_n 0, 1) := by decide +kernel
theorem dX9_packed_18 : decode cX9_packed 18 = .ok (.getfield 54, 3) := by decide +kernel
theorem dX9_packed_21 : decode cX9_packed 21 = .ok (.aload_n 0, 1) := by decide +kernel
theorem dX9_packed_22 : decode cX9_packed 22 = .ok (.getfield 75, 3) := by decide +kernel
theorem dX9_packed_25 : decode cX9_packed 25 = .ok (.aload_n 0, 1) := by decide +kernel
theorem dX9_packed_26 : decode cX9_packed 26 = .ok (.getfield 33, 3) := by decide +kernel
theorem dX9_packed_29 : decode cX9_packed 29 = .ok (.getfield 120, 3) := by decide +kernel
theorem dX9_packed_32 : decode cX9_packed 32 = .ok (.invokevirtual 171, 3) := by decide +kernel
theorem dX9_packed_35 : decode cX9_packed 35 = .ok (.aload_n 0, 1) := by decide +kernel
theorem dX9_packed_36 : decode cX9_packed 36 = .ok (.getfield 54, 3) := by decide +kernel
theorem dX9_packed_39 : decode cX9_packed 39 = .ok (.aload_n 0, 1) := by decide +kernel
theorem dX9_packed_40 : decode cX9_packed 40 = .ok (.getfield 75, 3) := by decide +kernel
theorem dX9_packed_43 : decode cX9_packed 43 = .ok (.iload_n 1, 1) := by decide +kernel
theorem dX9_packed_44 : decode cX9_packed 44 = .ok (.iload_n 2, 1) := by decide +kernel
theorem dX9_packed_45 : decode cX9_packed 45 = .ok (.invokevirtual 186, 3) := by decide +kernel
theorem dX9_packed_48 : decode cX9_packed 48 = .ok (.ireturn, 1) := by decide +kernel
set_option maxRecDepth 20000 in
theorem ggX9_wave_X2_hasGate : GoodIn wsX9_wave wsX2_hasGate := goodIn_r _ [10, 11, 70, 71, 72, 73, 74, 75, 76, 77, 78, 79, 80] (by decide +kernel) (by decide +kernel)
set_option maxRecDepth 20000 in
theorem gX9_wave_X2_hasGate : GoodIn wsX9_wave (wsV RX9 116 RX2 yX2_hasGate wsX2_hasGate) := goodIn_app (goodIn_of _ (by decide +kernel)) ggX9_wave_X2_hasGate
set_option maxRecDepth 20000 in
theorem ggX9_wave_X2_hasPair : GoodIn wsX9_wave wsX2_hasPair := goodIn_r _ [15, 16, 17, 18, 9, 19, 20, 21, 22, 23, 24, 70, 71, 72, 73, 74, 75, 76, 77, 78, 79, 80] (by decide +kernel) (by decide +kernel)
set_option maxRecDepth 20000 in
theorem gX9_wave_X2_hasPair : GoodIn wsX9_wave (wsV RX9 157 RX2 yX2_hasPair wsX2_hasPair) := goodIn_app (goodIn_of _ (by decide +kernel)) ggX9_wave_X2_hasPair
set_option maxRecDepth 20000 in
theorem ggX9_wave_X8_run : GoodIn wsX9_wave wsX8_run := goodIn_r _ [29, 30, 31, 32, 33, 34, 35, 36, 37, 38, 39, 28, 40, 41, 42, 43, 44, 45, 46, 47, 48, 49, 70, 71, 72, 73, 74, 75, 76, 77, 78, 79, 80, 81, 82, 83, 84] (by decide +kernel) (by decide +kernel)
set_option maxRecDepth 20000 in
theorem gX9_wave_X8_run : GoodIn wsX9_wave (wsV RX9 190 RX8 yX8_run wsX8_run) := goodIn_app (goodIn_of _ (by decide +kernel)) ggX9_wave_X8_run
set_option maxRecDepth 20000 in
theorem ggX9_wave_X8_at : GoodIn wsX9_wave wsX8_at := goodIn_r _ [53, 33, 34, 81, 82, 83, 84] (by decide +kernel) (by decide +kernel)
set_option maxRecDepth 20000 in
theorem gX9_wave_X8_at : GoodIn wsX9_wave (wsV RX9 194 RX8 yX8_at wsX8_at) := goodIn_app (goodIn_of _ (by decide +kernel)) ggX9_wave_X8_at
theorem dX9_wave_0 : decode cX9_wave 0 = .ok (.aload_n 0, 1) := by decide +kernel
theorem dX9_wave_1 : decode cX9_wave 1 = .ok (.getfield 75, 3) := by decide +kernel
theorem dX9_wave_4 : decode cX9_wave 4 = .ok (.iload_n 1, 1) := by decide +kernel
theorem dX9_wave_5 : decode cX9_wave 5 = .ok (.invokevirtual 116, 3) := by decide +kernel
theorem dX9_wave_8 : decode cX9_wave 8 = .ok (.ifCond .ne 5, 3) := by decide +kernel
theorem dX9_wave_11 : decode cX9_wave 11 = .ok (.iconst (-1), 1) := by decide +kernel
theorem dX9_wave_12 : decode cX9_wave 12 = .ok (.ireturn, 1) := by decide +kernel
theorem dX9_wave_13 : decode cX9_wave 13 = .ok (.aload_n 0, 1) := by decide +kernel
theorem dX9_wave_14 : decode cX9_wave 14 = .ok (.getfield 75, 3) := by decide +kernel
theorem dX9_wave_17 : decode cX9_wave 17 = .ok (.iload_n 2, 1) := by decide +kernel
theorem dX9_wave_18 : decode cX9_wave 18 = .ok (.invokevirtual 157, 3) := by decide +kernel
theorem dX9_wave_21 : decode cX9_wave 21 = .ok (.ifCond .eq 13, 3) := by decide +kernel
theorem dX9_wave_24 : decode cX9_wave 24 = .ok (.iload_n 3, 1) := by decide +kernel
theorem dX9_wave_25 : decode cX9_wave 25 = .ok (.ifCond .lt 9, 3) := by decide +kernel
theorem dX9_wave_28 : decode cX9_wave 28 = .ok (.iload_n 3, 1) := by decide +kernel
theorem dX9_wave_29 : decode cX9_wave 29 = .ok (.bipush 99, 2) := by decide +kernel
theorem dX9_wave_31 : decode cX9_wave 31 = .ok (.if_icmp .le 6, 3) := by decide +kernel
theorem dX9_wave_34 : decode cX9_wave 34 = .ok (.bipush (-2), 2) := by decide +kernel
theorem dX9_wave_36 : decode cX9_wave 36 = .ok (.ireturn, 1) := by decide +kernel
theorem dX9_wave_37 : decode cX9_wave 37 = .ok (.aload_n 0, 1) := by decide +kernel
theorem dX9_wave_38 : decode cX9_wave 38 = .ok (.getfield 61, 3) := by decide +kernel
theorem dX9_wave_41 : decode cX9_wave 41 = .ok (.aload_n 0, 1) := by decide +kernel
theorem dX9_wave_42 : decode cX9_wave 42 = .ok (.getfield 75, 3) := by decide +kernel
theorem dX9_wave_45 : decode cX9_wave 45 = .ok (.aload_n 0, 1) := by decide +kernel
theorem dX9_wave_46 : decode cX9_wave 46 = .ok (.getfield 33, 3) := by decide +kernel
theorem dX9_wave_49 : decode cX9_wave 49 = .ok (.getfield 120, 3) := by decide +kernel
theorem dX9_wave_52 : decode cX9_wave 52 = .ok (.aload_n 0, 1) := by decide +kernel
theorem dX9_wave_53 : decode cX9_wave 53 = .ok (.getfield 33, 3) := by decide +kernel
theorem dX9_wave_56 : decode cX9_wave 56 = .ok (.getfield 129, 3) := by decide +kernel
theorem dX9_wave_59 : decode cX9_wave 59 = .ok (.iload_n 2, 1) := by decide +kernel
theorem dX9_wave_60 : decode cX9_wave 60 = .ok (.invokevirtual 190, 3) := by decide +kernel
theorem dX9_wave_63 : decode cX9_wave 63 = .ok (.aload_n 0, 1) := by decide +kernel
theorem dX9_wave_64 : decode cX9_wave 64 = .ok (.getfield 61, 3) := by decide +kernel
theorem dX9_wave_67 : decode cX9_wave 67 = .ok (.bipush 10, 2) := by decide +kernel
theorem dX9_wave_69 : decode cX9_wave 69 = .ok (.iload_n 1, 1) := by decide +kernel
theorem dX9_wave_70 : decode cX9_wave 70 = .ok (.iadd, 1) := by decide +kernel
theorem dX9_wave_71 : decode cX9_wave 71 = .ok (.iload_n 3, 1) := by decide +kernel
theorem dX9_wave_72 : decode cX9_wave 72 = .ok (.invokevirtual 194, 3) := by decide +kernel
theorem dX9_wave_75 : decode cX9_wave 75 = .ok (.ireturn, 1) := by decide +kernel
set_option maxRecDepth 20000 in
theorem ggX9_late_X2_hasPair : GoodIn wsX9_late wsX2_hasPair := goodIn_r _ [11, 12, 13, 14, 10, 15, 16, 17, 18, 19, 20, 67, 68, 69, 70, 71, 72, 73, 74, 75, 76, 77] (by decide +kernel) (by decide +kernel)
set_option maxRecDepth 20000 in
theorem gX9_late_X2_hasPair : GoodIn wsX9_late (wsV RX9 157 RX2 yX2_hasPair wsX2_hasPair) := goodIn_app (goodIn_of _ (by decide +kernel)) ggX9_late_X2_hasPair
set_option maxRecDepth 20000 in
theorem ggX9_late_X8_run : GoodIn wsX9_late wsX8_run := goodIn_r _ [25, 26, 27, 28, 29, 30, 31, 32, 33, 34, 35, 24, 36, 37, 38, 39, 40, 41, 42, 43, 44, 45, 67, 68, 69, 70, 71, 72, 73, 74, 75, 76, 77, 81, 82, 83, 84] (by decide +kernel) (by decide +kernel)
set_option maxRecDepth 20000 in
theorem gX9_late_X8_run : GoodIn wsX9_late (wsV RX9 190 RX8 yX8_run wsX8_run) := goodIn_app (goodIn_of _ (by decide +kernel)) ggX9_late_X8_run
set_option maxRecDepth 20000 in
theorem ggX9_late_X8_isLate : GoodIn wsX9_late wsX8_isLate := goodIn_r _ [49, 31, 28, 50, 51, 52, 24, 53, 29, 30, 67, 68, 69, 70, 71, 72, 73, 74, 75, 76, 77, 81, 82, 83, 84] (by decide +kernel) (by decide +kernel)
set_option maxRecDepth 20000 in
theorem gX9_late_X8_isLate : GoodIn wsX9_late (wsV RX9 200 RX8 yX8_isLate wsX8_isLate) := goodIn_app (goodIn_of _ (by decide +kernel)) ggX9_late_X8_isLate
theorem dX9_late_0 : decode cX9_late 0 = .ok (.aload_n 0, 1) := by decide +kernel
theorem dX9_late_1 : decode cX9_late 1 = .ok (.getfield 75, 3) := by decide +kernel
theorem dX9_late_4 : decode cX9_late 4 = .ok (.iload_n 1, 1) := by decide +kernel

theorem dX5_clears_21 : decode cX5_clears 21 = .ok (.istore 5, 2) := by decide +kernel
theorem dX5_clears_23 : decode cX5_clears 23 = .ok (.iload 5, 2) := by decide +kernel
theorem dX5_clears_25 : decode cX5_clears 25 = .ok (.iload_n 3, 1) := by decide +kernel
theorem dX5_clears_26 : decode cX5_clears 26 = .ok (.if_icmp .ge 55, 3) := by decide +kernel
theorem dX5_clears_29 : decode cX5_clears 29 = .ok (.aload_n 0, 1) := by decide +kernel
theorem dX5_clears_30 : decode cX5_clears 30 = .ok (.aload_n 0, 1) := by decide +kernel
theorem dX5_clears_31 : decode cX5_clears 31 = .ok (.getfield 31, 3) := by decide +kernel
theorem dX5_clears_34 : decode cX5_clears 34 = .ok (.iload 5, 2) := by decide +kernel
theorem dX5_clears_36 : decode cX5_clears 36 = .ok (.iaload, 1) := by decide +kernel
theorem dX5_clears_37 : decode cX5_clears 37 = .ok (.aload_n 0, 1) := by decide +kernel
theorem dX5_clears_38 : decode cX5_clears 38 = .ok (.getfield 31, 3) := by decide +kernel
theorem dX5_clears_41 : decode cX5_clears 41 = .ok (.iload 5, 2) := by decide +kernel
theorem dX5_clears_43 : decode cX5_clears 43 = .ok (.iconst 1, 1) := by decide +kernel
theorem dX5_clears_44 : decode cX5_clears 44 = .ok (.iadd, 1) := by decide +kernel
theorem dX5_clears_45 : decode cX5_clears 45 = .ok (.iload_n 3, 1) := by decide +kernel
theorem dX5_clears_46 : decode cX5_clears 46 = .ok (.irem, 1) := by decide +kernel
theorem dX5_clears_47 : decode cX5_clears 47 = .ok (.iaload, 1) := by decide +kernel
theorem dX5_clears_48 : decode cX5_clears 48 = .ok (.iload_n 1, 1) := by decide +kernel
theorem dX5_clears_49 : decode cX5_clears 49 = .ok (.iload 4, 2) := by decide +kernel
theorem dX5_clears_51 : decode cX5_clears 51 = .ok (.invokevirtual 97, 3) := by decide +kernel
theorem dX5_clears_54 : decode cX5_clears 54 = .ok (.aload_n 0, 1) := by decide +kernel
theorem dX5_clears_55 : decode cX5_clears 55 = .ok (.getfield 7, 3) := by decide +kernel
theorem dX5_clears_58 : decode cX5_clears 58 = .ok (.aload_n 0, 1) := by decide +kernel
theorem dX5_clears_59 : decode cX5_clears 59 = .ok (.getfield 31, 3) := by decide +kernel
theorem dX5_clears_62 : decode cX5_clears 62 = .ok (.iload 5, 2) := by decide +kernel
theorem dX5_clears_64 : decode cX5_clears 64 = .ok (.iaload, 1) := by decide +kernel
theorem dX5_clears_65 : decode cX5_clears 65 = .ok (.iconst 4, 1) := by decide +kernel
theorem dX5_clears_66 : decode cX5_clears 66 = .ok (.invokestatic 69, 3) := by decide +kernel
theorem dX5_clears_69 : decode cX5_clears 69 = .ok (.dup2, 1) := by decide +kernel
theorem dX5_clears_70 : decode cX5_clears 70 = .ok (.iaload, 1) := by decide +kernel
theorem dX5_clears_71 : decode cX5_clears 71 = .ok (.iload 4, 2) := by decide +kernel
theorem dX5_clears_73 : decode cX5_clears 73 = .ok (.iadd, 1) := by decide +kernel
theorem dX5_clears_74 : decode cX5_clears 74 = .ok (.iastore, 1) := by decide +kernel
theorem dX5_clears_75 : decode cX5_clears 75 = .ok (.iinc 5 1, 3) := by decide +kernel
theorem dX5_clears_78 : decode cX5_clears 78 = .ok (.goto (-55), 3) := by decide +kernel
theorem dX5_clears_81 : decode cX5_clears 81 = .ok (.iload_n 2, 1) := by decide +kernel
theorem dX5_clears_82 : decode cX5_clears 82 = .ok (.iload_n 3, 1) := by decide +kernel
theorem dX5_clears_83 : decode cX5_clears 83 = .ok (.iload 4, 2) := by decide +kernel
theorem dX5_clears_85 : decode cX5_clears 85 = .ok (.imul, 1) := by decide +kernel
theorem dX5_clears_86 : decode cX5_clears 86 = .ok (.iadd, 1) := by decide +kernel
theorem dX5_clears_87 : decode cX5_clears 87 = .ok (.istore_n 2, 1) := by decide +kernel
theorem dX5_clears_88 : decode cX5_clears 88 = .ok (.aload_n 0, 1) := by decide +kernel
theorem dX5_clears_89 : decode cX5_clears 89 = .ok (.getfield 7, 3) := by decide +kernel
theorem dX5_clears_92 : decode cX5_clears 92 = .ok (.sipush 294, 3) := by decide +kernel
theorem dX5_clears_95 : decode cX5_clears 95 = .ok (.dup2, 1) := by decide +kernel
theorem dX5_clears_96 : decode cX5_clears 96 = .ok (.iaload, 1) := by decide +kernel
theorem dX5_clears_97 : decode cX5_clears 97 = .ok (.iload_n 3, 1) := by decide +kernel
theorem dX5_clears_98 : decode cX5_clears 98 = .ok (.iload 4, 2) := by decide +kernel
theorem dX5_clears_100 : decode cX5_clears 100 = .ok (.imul, 1) := by decide +kernel
theorem dX5_clears_101 : decode cX5_clears 101 = .ok (.iadd, 1) := by decide +kernel
theorem dX5_clears_102 : decode cX5_clears 102 = .ok (.iastore, 1) := by decide +kernel
theorem dX5_clears_103 : decode cX5_clears 103 = .ok (.aload_n 0, 1) := by decide +kernel
theorem dX5_clears_104 : decode cX5_clears 104 = .ok (.getfield 7, 3) := by decide +kernel
theorem dX5_clears_107 : decode cX5_clears 107 = .ok (.sipush 296, 3) := by decide +kernel
theorem dX5_clears_110 : decode cX5_clears 110 = .ok (.dup2, 1) := by decide +kernel
theorem dX5_clears_111 : decode cX5_clears 111 = .ok (.iaload, 1) := by decide +kernel
theorem dX5_clears_112 : decode cX5_clears 112 = .ok (.iconst 1, 1) := by decide +kernel
theorem dX5_clears_113 : decode cX5_clears 113 = .ok (.iadd, 1) := by decide +kernel
theorem dX5_clears_114 : decode cX5_clears 114 = .ok (.iastore, 1) := by decide +kernel
theorem dX5_clears_115 : decode cX5_clears 115 = .ok (.aload_n 0, 1) := by decide +kernel
theorem dX5_clears_116 : decode cX5_clears 116 = .ok (.iload_n 1, 1) := by decide +kernel
theorem dX5_clears_117 : decode cX5_clears 117 = .ok (.invokevirtual 119, 3) := by decide +kernel
theorem dX5_clears_120 : decode cX5_clears 120 = .ok (.istore_n 3, 1) := by decide +kernel
theorem dX5_clears_121 : decode cX5_clears 121 = .ok (.goto (-113), 3) := by decide +kernel
theorem dX5_clears_124 : decode cX5_clears 124 = .ok (.iload_n 2, 1) := by decide +kernel
theorem dX5_clears_125 : decode cX5_clears 125 = .ok (.ireturn, 1) := by decide +kernel
set_option maxRecDepth 20000 in
theorem ggX5_clear_X5_isKind : GoodIn wsX5_clear wsX5_isKind := goodIn_r _ [5, 6, 7, 4, 8] (by decide +kernel) (by decide +kernel)
set_option maxRecDepth 20000 in
theorem gX5_clear_X5_isKind : GoodIn wsX5_clear (va_wsS RX5 83 yX5_isKind wsX5_isKind) := goodIn_app (goodIn_of _ (by decide +kernel)) ggX5_clear_X5_isKind
set_option maxRecDepth 20000 in
theorem ggX5_clear_X5_changes : GoodIn wsX5_clear wsX5_changes := goodIn_r _ [12, 13, 14, 15, 16, 71, 72, 73, 74, 75, 76, 77, 78, 79, 80, 81, 82, 83, 84, 85, 86, 87, 88] (by decide +kernel) (by decide +kernel)
set_option maxRecDepth 20000 in
theorem gX5_clear_X5_changes : GoodIn wsX5_clear (wsV RX5 73 RX5 yX5_changes wsX5_changes) := goodIn_app (goodIn_of _ (by decide +kernel)) ggX5_clear_X5_changes
set_option maxRecDepth 20000 in
theorem ggX5_clear_X5_clears : GoodIn wsX5_clear wsX5_clears := goodIn_r _ [20, 21, 16, 22, 23, 24, 4, 25, 26, 27, 28, 29, 30, 31, 32, 33, 34, 35, 36, 37, 38, 39, 40, 41, 42, 43, 44, 45, 46, 47, 48, 49, 50, 51, 52, 53, 54, 55, 56, 57, 58, 59, 60, 61, 62, 63, 64, 65, 66, 67, 68, 69, 70, 71, 72, 73, 74, 75, 76, 77, 78, 79, 80, 81, 82, 83, 84, 85, 86, 87, 88] (by decide +kernel) (by decide +kernel)
set_option maxRecDepth 20000 in
theorem gX5_clear_X5_clears : GoodIn wsX5_clear (wsV RX5 125 RX5 yX5_clears wsX5_clears) := goodIn_app (goodIn_of _ (by decide +kernel)) ggX5_clear_X5_clears
theorem dX5_clear_0 : decode cX5_clear 0 = .ok (.iload_n 1, 1) := by decide +kernel
theorem dX5_clear_1 : decode cX5_clear 1 = .ok (.invokestatic 83, 3) := by decide +kernel
theorem dX5_clear_4 : decode cX5_clear 4 = .ok (.ifCond .ne 6, 3) := by decide +kernel
theorem dX5_clear_7 : decode cX5_clear 7 = .ok (.ldc 86, 2) := by decide +kernel
theorem dX5_clear_9 : decode cX5_clear 9 = .ok (.ireturn, 1) := by decide +kernel
theorem dX5_clear_10 : decode cX5_clear 10 = .ok (.aload_n 0, 1) := by decide +kernel
theorem dX5_clear_11 : decode cX5_clear 11 = .ok (.invokevirtual 73, 3) := by decide +kernel
theorem dX5_clear_14 : decode cX5_clear 14 = .ok (.aload_n 0, 1) := by decide +kernel
theorem dX5_clear_15 : decode cX5_clear 15 = .ok (.iload_n 1, 1) := by decide +kernel
theorem dX5_clear_16 : decode cX5_clear 16 = .ok (.invokevirtual 125, 3) := by decide +kernel
theorem dX5_clear_19 : decode cX5_clear 19 = .ok (.ireturn, 1) := by decide +kernel
set_option maxRecDepth 20000 in
theorem ggX5_set_X5_in : GoodIn wsX5_set wsX5_in := goodIn_r _ [6] (by decide +kernel) (by decide +kernel)
set_option maxRecDepth 20000 in
theorem gX5_set_X5_in : GoodIn wsX5_set (va_wsS RX5 45 yX5_in wsX5_in) := goodIn_app (goodIn_of _ (by decide +kernel)) ggX5_set_X5_in
set_option maxRecDepth 20000 in
theorem ggX5_set_X5_changes : GoodIn wsX5_set wsX5_changes := goodIn_r _ [10, 11, 12, 13, 2, 14, 15, 16, 17, 18, 19, 20, 21, 22, 23, 24, 25, 26, 27, 28, 29, 30, 31] (by decide +kernel) (by decide +kernel)
set_option maxRecDepth 20000 in
theorem gX5_set_X5_changes : GoodIn wsX5_set (wsV RX5 73 RX5 yX5_changes wsX5_changes) := goodIn_app (goodIn_of _ (by decide +kernel)) ggX5_set_X5_changes
theorem dX5_set_0 : decode cX5_set 0 = .ok (.iload_n 1, 1) := by decide +kernel
theorem dX5_set_1 : decode cX5_set 1 = .ok (.iconst 0, 1) := by decide +kernel
theorem dX5_set_2 : decode cX5_set 2 = .ok (.iconst 5, 1) := by decide +kernel
theorem dX5_set_3 : decode cX5_set 3 = .ok (.invokestatic 45, 3) := by decide +kernel
theorem dX5_set_6 : decode cX5_set 6 = .ok (.ifCond .eq 23, 3) := by decide +kernel
theorem dX5_set_9 : decode cX5_set 9 = .ok (.iload_n 2, 1) := by decide +kernel
theorem dX5_set_10 : decode cX5_set 10 = .ok (.iconst 1, 1) := by decide +kernel
theorem dX5_set_11 : decode cX5_set 11 = .ok (.iload_n 1, 1) := by decide +kernel
theorem dX5_set_12 : decode cX5_set 12 = .ok (.iconst 4, 1) := by decide +kernel
theorem dX5_set_13 : decode cX5_set 13 = .ok (.if_icmp .ne 8, 3) := by decide +kernel
theorem dX5_set_16 : decode cX5_set 16 = .ok (.bipush 99, 2) := by decide +kernel
theorem dX5_set_18 : decode cX5_set 18 = .ok (.goto 5, 3) := by decide +kernel
theorem dX5_set_21 : decode cX5_set 21 = .ok (.bipush 20, 2) := by decide +kernel
theorem dX5_set_23 : decode cX5_set 23 = .ok (.invokestatic 45, 3) := by decide +kernel
theorem dX5_set_26 : decode cX5_set 26 = .ok (.ifCond .ne 6, 3) := by decide +kernel
theorem dX5_set_29 : decode cX5_set 29 = .ok (.ldc 86, 2) := by decide +kernel
theorem dX5_set_31 : decode cX5_set 31 = .ok (.ireturn, 1) := by decide +kernel
theorem dX5_set_32 : decode cX5_set 32 = .ok (.aload_n 0, 1) := by decide +kernel
theorem dX5_set_33 : decode cX5_set 33 = .ok (.invokevirtual 73, 3) := by decide +kernel
theorem dX5_set_36 : decode cX5_set 36 = .ok (.aload_n 0, 1) := by decide +kernel
theorem dX5_set_37 : decode cX5_set 37 = .ok (.getfield 7, 3) := by decide +kernel
theorem dX5_set_40 : decode cX5_set 40 = .ok (.sipush 298, 3) := by decide +kernel
theorem dX5_set_43 : decode cX5_set 43 = .ok (.iload_n 1, 1) := by decide +kernel
theorem dX5_set_44 : decode cX5_set 44 = .ok (.iadd, 1) := by decide +kernel
theorem dX5_set_45 : decode cX5_set 45 = .ok (.iaload, 1) := by decide +kernel
theorem dX5_set_46 : decode cX5_set 46 = .ok (.istore_n 3, 1) := by decide +kernel
theorem dX5_set_47 : decode cX5_set 47 = .ok (.aload_n 0, 1) := by decide +kernel
theorem dX5_set_48 : decode cX5_set 48 = .ok (.getfield 7, 3) := by decide +kernel
theorem dX5_set_51 : decode cX5_set 51 = .ok (.sipush 298, 3) := by decide +kernel
theorem dX5_set_54 : decode cX5_set 54 = .ok (.iload_n 1, 1) := by decide +kernel
theorem dX5_set_55 : decode cX5_set 55 = .ok (.iadd, 1) := by decide +kernel
theorem dX5_set_56 : decode cX5_set 56 = .ok (.iload_n 2, 1) := by decide +kernel
theorem dX5_set_57 : decode cX5_set 57 = .ok (.iastore, 1) := by decide +kernel
theorem dX5_set_58 : decode cX5_set 58 = .ok (.iload_n 3, 1) := by decide +kernel
theorem dX5_set_59 : decode cX5_set 59 = .ok (.ireturn, 1) := by decide +kernel
set_option maxRecDepth 20000 in
theorem ggX5_balance_X5_sumOf : GoodIn wsX5_balance wsX5_sumOf := goodIn_r _ [5, 6, 7, 8, 9, 4, 10, 11, 12, 13, 14, 15, 16, 17, 18, 19, 20, 21, 22, 23, 24, 25, 26, 27, 28] (by decide +kernel) (by decide +kernel)
set_option maxRecDepth 20000 in
theorem gX5_balance_X5_sumOf : GoodIn wsX5_balance (wsV RX5 76 RX5 yX5_sumOf wsX5_sumOf) := goodIn_app (goodIn_of _ (by decide +kernel)) ggX5_balance_X5_sumOf
theorem dX5_balance_0 : decode cX5_balance 0 = .ok (.aload_n 0, 1) := by decide +kernel
theorem dX5_balance_1 : decode cX5_balance 1 = .ok (.iload_n 1, 1) := by decide +kernel
theorem dX5_balance_2 : decode cX5_balance 2 = .ok (.iconst 1, 1) := by decide +kernel
theorem dX5_balance_3 : decode cX5_balance 3 = .ok (.invokevirtual 76, 3) := by decide +kernel
theorem dX5_balance_6 : decode cX5_balance 6 = .ok (.aload_n 0, 1) := by decide +kernel
theorem dX5_balance_7 : decode cX5_balance 7 = .ok (.iload_n 1, 1) := by decide +kernel
theorem dX5_balance_8 : decode cX5_balance 8 = .ok (.iconst 0, 1) := by decide +kernel
theorem dX5_balance_9 : decode cX5_balance 9 = .ok (.invokevirtual 76, 3) := by decide +kernel
theorem dX5_balance_12 : decode cX5_balance 12 = .ok (.isub, 1) := by decide +kernel
theorem dX5_balance_13 : decode cX5_balance 13 = .ok (.ireturn, 1) := by decide +kernel
set_option maxRecDepth 20000 in
theorem ggX5_pupilOf_X5_isPupil : GoodIn wsX5_pupilOf wsX5_isPupil := goodIn_r _ [8, 2, 9, 10, 7, 11, 27, 28, 29, 30, 31, 32, 33, 34, 35, 36, 37, 38, 39, 40, 41, 42, 43, 44] (by decide +kernel) (by decide +kernel)
set_option maxRecDepth 20000 in
theorem gX5_pupilOf_X5_isPupil : GoodIn wsX5_pupilOf (wsV RX5 49 RX5 yX5_isPupil wsX5_isPupil) := goodIn_app (goodIn_of _ (by decide +kernel)) ggX5_pupilOf_X5_isPupil
set_option maxRecDepth 20000 in
theorem ggX5_pupilOf_X5_in : GoodIn wsX5_pupilOf wsX5_in := goodIn_r _ [11] (by decide +kernel) (by decide +kernel)
set_option maxRecDepth 20000 in
theorem gX5_pupilOf_X5_in : GoodIn wsX5_pupilOf (va_wsS RX5 45 yX5_in wsX5_in) := goodIn_app (goodIn_of _ (by decide +kernel)) ggX5_pupilOf_X5_in
set_option maxRecDepth 20000 in
theorem ggX5_pupilOf_X5_sumOf : GoodIn wsX5_pupilOf wsX5_sumOf := goodIn_r _ [15, 2, 16, 17, 18, 7, 19, 27, 28, 29, 30, 31, 32, 33, 34, 35, 36, 37, 38, 39, 40, 41, 42, 43, 44] (by decide +kernel) (by decide +kernel)
set_option maxRecDepth 20000 in
theorem gX5_pupilOf_X5_sumOf : GoodIn wsX5_pupilOf (wsV RX5 76 RX5 yX5_sumOf wsX5_sumOf) := goodIn_app (goodIn_of _ (by decide +kernel)) ggX5_pupilOf_X5_sumOf
set_option maxRecDepth 20000 in
theorem ggX5_pupilOf_X5_balance : GoodIn wsX5_pupilOf wsX5_balance := goodIn_r _ [23, 12, 13, 14, 7, 15, 2, 16, 17, 18, 19, 27, 28, 29, 30, 31, 32, 33, 34, 35, 36, 37, 38, 39, 40, 41, 42, 43, 44] (by decide +kernel) (by decide +kernel)
set_option maxRecDepth 20000 in
theorem gX5_pupilOf_X5_balance : GoodIn wsX5_pupilOf (wsV RX5 128 RX5 yX5_balance wsX5_balance) := goodIn_app (goodIn_of _ (by decide +kernel)) ggX5_pupilOf_X5_balance
set_option maxRecDepth 20000 in
theorem ggX5_pupilOf_X5_at : GoodIn wsX5_pupilOf wsX5_at := goodIn_r _ [26] (by decide +kernel) (by decide +kernel)
set_option maxRecDepth 20000 in
theorem gX5_pupilOf_X5_at : GoodIn wsX5_pupilOf (va_wsS RX5 69 yX5_at wsX5_at) := goodIn_app (goodIn_of _ (by decide +kernel)) ggX5_pupilOf_X5_at
theorem dX5_pupilOf_0 : decode cX5_pupilOf 0 = .ok (.aload_n 0, 1) := by decide +kernel
theorem dX5_pupilOf_1 : decode cX5_pupilOf 1 = .ok (.iload_n 1, 1) := by decide +kernel
theorem dX5_pupilOf_2 : decode cX5_pupilOf 2 = .ok (.invokevirtual 49, 3) := by decide +kernel
theorem dX5_pupilOf_5 : decode cX5_pupilOf 5 = .ok (.ifCond .eq 13, 3) := by decide +kernel
theorem dX5_pupilOf_8 : decode cX5_pupilOf 8 = .ok (.iload_n 2, 1) := by decide +kernel
theorem dX5_pupilOf_9 : decode cX5_pupilOf 9 = .ok (.iconst 0, 1) := by decide +kernel
theorem dX5_pupilOf_10 : decode cX5_pupilOf 10 = .ok (.bipush 8, 2) := by decide +kernel
theorem dX5_pupilOf_12 : decode cX5_pupilOf 12 = .ok (.invokestatic 45, 3) := by decide +kernel
theorem dX5_pupilOf_15 : decode cX5_pupilOf 15 = .ok (.ifCond .ne 6, 3) := by decide +kernel
theorem dX5_pupilOf_18 : decode cX5_pupilOf 18 = .ok (.ldc 86, 2) := by decide +kernel
theorem dX5_pupilOf_20 : decode cX5_pupilOf 20 = .ok (.ireturn, 1) := by decide +kernel
theorem dX5_pupilOf_21 : decode cX5_pupilOf 21 = .ok (.iload_n 2, 1) := by decide +kernel
theorem dX5_pupilOf_22 : decode cX5_pupilOf 22 = .ok (.tableswitch 112 0 6 #[42, 49, 56, 66, 112, 112, 81], 42) := by decide +kernel
theorem dX5_pupilOf_64 : decode cX5_pupilOf 64 = .ok (.aload_n 0, 1) := by decide +kernel
theorem dX5_pupilOf_65 : decode cX5_pupilOf 65 = .ok (.iload_n 1, 1) := by decide +kernel
theorem dX5_pupilOf_66 : decode cX5_pupilOf 66 = .ok (.iconst 0, 1) := by decide +kernel
theorem dX5_pupilOf_67 : decode cX5_pupilOf 67 = .ok (.invokevirtual 76, 3) := by decide +kernel
theorem dX5_pupilOf_70 : decode cX5_pupilOf 70 = .ok (.ireturn, 1) := by decide +kernel
theorem dX5_pupilOf_71 : decode cX5_pupilOf 71 = .ok (.aload_n 0, 1) := by decide +kernel
theorem dX5_pupilOf_72 : decode cX5_pupilOf 72 = .ok (.iload_n 1, 1) := by decide +kernel
theorem dX5_pupilOf_73 : decode cX5_pupilOf 73 = .ok (.iconst 1, 1) := by decide +kernel
theorem dX5_pupilOf_74 : decode cX5_pupilOf 74 = .ok (.invokevirtual 76, 3) := by decide +kernel
theorem dX5_pupilOf_77 : decode cX5_pupilOf 77 = .ok (.ireturn, 1) := by decide +kernel
theorem dX5_pupilOf_78 : decode cX5_pupilOf 78 = .ok (.sipush 1000, 3) := by decide +kernel
theorem dX5_pupilOf_81 : decode cX5_pupilOf 81 = .ok (.aload_n 0, 1) := by decide +kernel
theorem dX5_pupilOf_82 : decode cX5_pupilOf 82 = .ok (.iload_n 1, 1) := by decide +kernel
theorem dX5_pupilOf_83 : decode cX5_pupilOf 83 = .ok (.invokevirtual 128, 3) := by decide +kernel
theorem dX5_pupilOf_86 : decode cX5_pupilOf 86 = .ok (.iadd, 1) := by decide +kernel
theorem dX5_pupilOf_87 : decode cX5_pupilOf 87 = .ok (.ireturn, 1) := by decide +kernel
theorem dX5_pupilOf_88 : decode cX5_pupilOf 88 = .ok (.sipush 1000, 3) := by decide +kernel
theorem dX5_pupilOf_91 : decode cX5_pupilOf 91 = .ok (.aload_n 0, 1) := by decide +kernel
theorem dX5_pupilOf_92 : decode cX5_pupilOf 92 = .ok (.getfield 7, 3) := by decide +kernel
theorem dX5_pupilOf_95 : decode cX5_pupilOf 95 = .ok (.iload_n 1, 1) := by decide +kernel
theorem dX5_pupilOf_96 : decode cX5_pupilOf 96 = .ok (.iconst 5, 1) := by decide +kernel
theorem dX5_pupilOf_97 : decode cX5_pupilOf 97 = .ok (.invokestatic 69, 3) := by decide +kernel
theorem dX5_pupilOf_100 : decode cX5_pupilOf 100 = .ok (.iaload, 1) := by decide +kernel
theorem dX5_pupilOf_101 : decode cX5_pupilOf 101 = .ok (.iadd, 1) := by decide +kernel
theorem dX5_pupilOf_102 : decode cX5_pupilOf 102 = .ok (.ireturn, 1) := by decide +kernel
theorem dX5_pupilOf_103 : decode cX5_pupilOf 103 = .ok (.aload_n 0, 1) := by decide +kernel
theorem dX5_pupilOf_104 : decode cX5_pupilOf 104 = .ok (.getfield 7, 3) := by decide +kernel
theorem dX5_pupilOf_107 : decode cX5_pupilOf 107 = .ok (.iload_n 1, 1) := by decide +kernel
theorem dX5_pupilOf_108 : decode cX5_pupilOf 108 = .ok (.iconst 2, 1) := by decide +kernel
theorem dX5_pupilOf_109 : decode cX5_pupilOf 109 = .ok (.invokestatic 69, 3) := by decide +kernel
theorem dX5_pupilOf_112 : decode cX5_pupilOf 112 = .ok (.iaload, 1) := by decide +kernel
theorem dX5_pupilOf_113 : decode cX5_pupilOf 113 = .ok (.ifCond .le 18, 3) := by decide +kernel
theorem dX5_pupilOf_116 : decode cX5_pupilOf 116 = .ok (.aload_n 0, 1) := by decide +kernel
theorem dX5_pupilOf_117 : decode cX5_pupilOf 117 = .ok (.getfield 7, 3) := by decide +kernel
theorem dX5_pupilOf_120 : decode cX5_pupilOf 120 = .ok (.iload_n 1, 1) := by decide +kernel
theorem dX5_pupilOf_121 : decode cX5_pupilOf 121 = .ok (.iconst 2, 1) := by decide +kernel
theorem dX5_pupilOf_122 : decode cX5_pupilOf 122 = .ok (.invokestatic 69, 3) := by decide +kernel
theorem dX5_pupilOf_125 : decode cX5_pupilOf 125 = .ok (.iaload, 1) := by decide +kernel
theorem dX5_pupilOf_126 : decode cX5_pupilOf 126 = .ok (.iconst 1, 1) := by decide +kernel
theorem dX5_pupilOf_127 : decode cX5_pupilOf 127 = .ok (.isub, 1) := by decide +kernel
theorem dX5_pupilOf_128 : decode cX5_pupilOf 128 = .ok (.goto 5, 3) := by decide +kernel
theorem dX5_pupilOf_131 : decode cX5_pupilOf 131 = .ok (.ldc 57, 2) := by decide +kernel
theorem dX5_pupilOf_133 : decode cX5_pupilOf 133 = .ok (.ireturn, 1) := by decide +kernel
theorem dX5_pupilOf_134 : decode cX5_pupilOf 134 = .ok (.aload_n 0, 1) := by decide +kernel
theorem dX5_pupilOf_135 : decode cX5_pupilOf 135 = .ok (.getfield 7, 3) := by decide +kernel
theorem dX5_pupilOf_138 : decode cX5_pupilOf 138 = .ok (.iload_n 1, 1) := by decide +kernel
theorem dX5_pupilOf_139 : decode cX5_pupilOf 139 = .ok (.iload_n 2, 1) := by decide +kernel
theorem dX5_pupilOf_140 : decode cX5_pupilOf 140 = .ok (.iconst 4, 1) := by decide +kernel
theorem dX5_pupilOf_141 : decode cX5_pupilOf 141 = .ok (.isub, 1) := by decide +kernel
theorem dX5_pupilOf_142 : decode cX5_pupilOf 142 = .ok (.invokestatic 69, 3) := by decide +kernel
theorem dX5_pupilOf_145 : decode cX5_pupilOf 145 = .ok (.iaload, 1) := by decide +kernel
theorem dX5_pupilOf_146 : decode cX5_pupilOf 146 = .ok (.ireturn, 1) := by decide +kernel
set_option maxRecDepth 20000 in
theorem ggX5_owes_X5_isPupil : GoodIn wsX5_owes wsX5_isPupil := goodIn_r _ [6, 7, 8, 9, 5, 10, 22, 23, 24, 25, 26, 27, 28, 29, 30, 31, 32, 33, 34, 35, 36, 37, 38, 39] (by decide +kernel) (by decide +kernel)
set_option maxRecDepth 20000 in
theorem gX5_owes_X5_isPupil : GoodIn wsX5_owes (wsV RX5 49 RX5 yX5_isPupil wsX5_isPupil) := goodIn_app (goodIn_of _ (by decide +kernel)) ggX5_owes_X5_isPupil
set_option maxRecDepth 20000 in
theorem ggX5_owes_X5_isKind : GoodIn wsX5_owes wsX5_isKind := goodIn_r _ [13, 8, 9, 5, 10] (by decide +kernel) (by decide +kernel)
set_option maxRecDepth 20000 in
theorem gX5_owes_X5_isKind : GoodIn wsX5_owes (va_wsS RX5 83 yX5_isKind wsX5_isKind) := goodIn_app (goodIn_of _ (by decide +kernel)) ggX5_owes_X5_isKind
set_option maxRecDepth 20000 in
theorem ggX5_owes_X5_owed : GoodIn wsX5_owes wsX5_owed := goodIn_r _ [17, 7, 18, 19, 20, 5, 21, 22, 23, 24, 25, 26, 27, 28, 29, 30, 31, 32, 33, 34, 35, 36, 37, 38, 39] (by decide +kernel) (by decide +kernel)
set_option maxRecDepth 20000 in
theorem gX5_owes_X5_owed : GoodIn wsX5_owes (wsV RX5 94 RX5 yX5_owed wsX5_owed) := goodIn_app (goodIn_of _ (by decide +kernel)) ggX5_owes_X5_owed
theorem dX5_owes_0 : decode cX5_owes 0 = .ok (.aload_n 0, 1) := by decide +kernel
theorem dX5_owes_1 : decode cX5_owes 1 = .ok (.iload_n 1, 1) := by decide +kernel
theorem dX5_owes_2 : decode cX5_owes 2 = .ok (.invokevirtual 49, 3) := by decide +kernel
theorem dX5_owes_5 : decode cX5_owes 5 = .ok (.ifCond .eq 28, 3) := by decide +kernel
theorem dX5_owes_8 : decode cX5_owes 8 = .ok (.aload_n 0, 1) := by decide +kernel
theorem dX5_owes_9 : decode cX5_owes 9 = .ok (.iload_n 2, 1) := by decide +kernel
theorem dX5_owes_10 : decode cX5_owes 10 = .ok (.invokevirtual 49, 3) := by decide +kernel
theorem dX5_owes_13 : decode cX5_owes 13 = .ok (.ifCond .eq 20, 3) := by decide +kernel
theorem dX5_owes_16 : decode cX5_owes 16 = .ok (.iload_n 3, 1) := by decide +kernel
theorem dX5_owes_17 : decode cX5_owes 17 = .ok (.invokestatic 83, 3) := by decide +kernel
theorem dX5_owes_20 : decode cX5_owes 20 = .ok (.ifCond .eq 13, 3) := by decide +kernel
theorem dX5_owes_23 : decode cX5_owes 23 = .ok (.aload_n 0, 1) := by decide +kernel
theorem dX5_owes_24 : decode cX5_owes 24 = .ok (.iload_n 1, 1) := by decide +kernel
theorem dX5_owes_25 : decode cX5_owes 25 = .ok (.iload_n 2, 1) := by decide +kernel
theorem dX5_owes_26 : decode cX5_owes 26 = .ok (.iload_n 3, 1) := by decide +kernel
theorem dX5_owes_27 : decode cX5_owes 27 = .ok (.invokevirtual 94, 3) := by decide +kernel
theorem dX5_owes_30 : decode cX5_owes 30 = .ok (.goto 5, 3) := by decide +kernel
theorem dX5_owes_33 : decode cX5_owes 33 = .ok (.ldc 86, 2) := by decide +kernel
theorem dX5_owes_35 : decode cX5_owes 35 = .ok (.ireturn, 1) := by decide +kernel
set_option maxRecDepth 20000 in
theorem ggX5_lot_X5_in : GoodIn wsX5_lot wsX5_in := goodIn_r _ [7] (by decide +kernel) (by decide +kernel)
set_option maxRecDepth 20000 in
theorem gX5_lot_X5_in : GoodIn wsX5_lot (va_wsS RX5 45 yX5_in wsX5_in) := goodIn_app (goodIn_of _ (by decide +kernel)) ggX5_lot_X5_in
set_option maxRecDepth 20000 in
theorem ggX5_lot_X5_of : GoodIn wsX5_lot wsX5_of := goodIn_r _ [11, 2, 12, 13, 14, 15, 16, 17, 18, 19, 20, 21, 22, 23, 24, 25, 26, 27, 28, 29] (by decide +kernel) (by decide +kernel)
set_option maxRecDepth 20000 in
theorem gX5_lot_X5_of : GoodIn wsX5_lot (wsV RX5 53 RX5 yX5_of wsX5_of) := goodIn_app (goodIn_of _ (by decide +kernel)) ggX5_lot_X5_of
theorem dX5_lot_0 : decode cX5_lot 0 = .ok (.iload_n 1, 1) := by decide +kernel
theorem dX5_lot_1 : decode cX5_lot 1 = .ok (.ifCond .lt 12, 3) := by decide +kernel
theorem dX5_lot_4 : decode cX5_lot 4 = .ok (.iload_n 2, 1) := by decide +kernel
theorem dX5_lot_5 : decode cX5_lot 5 = .ok (.iconst 0, 1) := by decide +kernel
theorem dX5_lot_6 : decode cX5_lot 6 = .ok (.iconst 5, 1) := by decide +kernel
theorem dX5_lot_7 : decode cX5_lot 7 = .ok (.invokestatic 45, 3) := by decide +kernel
theorem dX5_lot_10 : decode cX5_lot 10 = .ok (.ifCond .ne 6, 3) := by decide +kernel
theorem dX5_lot_13 : decode cX5_lot 13 = .ok (.ldc 86, 2) := by decide +kernel
theorem dX5_lot_15 : decode cX5_lot 15 = .ok (.ireturn, 1) := by decide +kernel
theorem dX5_lot_16 : decode cX5_lot 16 = .ok (.iload_n 1, 1) := by decide +kernel
theorem dX5_lot_17 : decode cX5_lot 17 = .ok (.aload_n 0, 1) := by decide +kernel
theorem dX5_lot_18 : decode cX5_lot 18 = .ok (.getfield 7, 3) := by decide +kernel
theorem dX5_lot_21 : decode cX5_lot 21 = .ok (.sipush 290, 3) := by decide +kernel
theorem dX5_lot_24 : decode cX5_lot 24 = .ok (.iaload, 1) := by decide +kernel
theorem dX5_lot_25 : decode cX5_lot 25 = .ok (.if_icmp .ge 12, 3) := by decide +kernel
theorem dX5_lot_28 : decode cX5_lot 28 = .ok (.aload_n 0, 1) := by decide +kernel
theorem dX5_lot_29 : decode cX5_lot 29 = .ok (.iload_n 1, 1) := by decide +kernel
theorem dX5_lot_30 : decode cX5_lot 30 = .ok (.iload_n 2, 1) := by decide +kernel
theorem dX5_lot_31 : decode cX5_lot 31 = .ok (.invokevirtual 53, 3) := by decide +kernel
theorem dX5_lot_34 : decode cX5_lot 34 = .ok (.goto 5, 3) := by decide +kernel
theorem dX5_lot_37 : decode cX5_lot 37 = .ok (.ldc 57, 2) := by decide +kernel
theorem dX5_lot_39 : decode cX5_lot 39 = .ok (.ireturn, 1) := by decide +kernel
set_option maxRecDepth 20000 in
theorem ggX5_why_X5_isPupil : GoodIn wsX5_why wsX5_isPupil := goodIn_r _ [6, 7, 8, 9, 5, 10, 26, 27, 28, 29, 30, 31, 32, 33, 34, 35, 36, 37, 38, 39, 40, 41, 42, 43] (by decide +kernel) (by decide +kernel)
set_option maxRecDepth 20000 in
theorem gX5_why_X5_isPupil : GoodIn wsX5_why (wsV RX5 49 RX5 yX5_isPupil wsX5_isPupil) := goodIn_app (goodIn_of _ (by decide +kernel)) ggX5_why_X5_isPupil
set_option maxRecDepth 20000 in
theorem ggX5_why_X5_in : GoodIn wsX5_why wsX5_in := goodIn_r _ [10] (by decide +kernel) (by decide +kernel)
set_option maxRecDepth 20000 in
theorem gX5_why_X5_in : GoodIn wsX5_why (va_wsS RX5 45 yX5_in wsX5_in) := goodIn_app (goodIn_of _ (by decide +kernel)) ggX5_why_X5_in
set_option maxRecDepth 20000 in
theorem ggX5_why_X5_barred : GoodIn wsX5_why wsX5_barred := goodIn_r _ [14, 7, 15, 16, 17, 5, 18, 19, 20, 21, 22, 23, 24, 25, 26, 27, 28, 29, 30, 31, 32, 33, 34, 35, 36, 37, 38, 39, 40, 41, 42, 43] (by decide +kernel) (by decide +kernel)
set_option maxRecDepth 20000 in
theorem gX5_why_X5_barred : GoodIn wsX5_why (wsV RX5 87 RX5 yX5_barred wsX5_barred) := goodIn_app (goodIn_of _ (by decide +kernel)) ggX5_why_X5_barred
theorem dX5_why_0 : decode cX5_why 0 = .ok (.aload_n 0, 1) := by decide +kernel
theorem dX5_why_1 : decode cX5_why 1 = .ok (.iload_n 1, 1) := by decide +kernel
theorem dX5_why_2 : decode cX5_why 2 = .ok (.invokevirtual 49, 3) := by decide +kernel
theorem dX5_why_5 : decode cX5_why 5 = .ok (.ifCond .eq 22, 3) := by decide +kernel
theorem dX5_why_8 : decode cX5_why 8 = .ok (.iload_n 2, 1) := by decide +kernel
theorem dX5_why_9 : decode cX5_why 9 = .ok (.iconst 1, 1) := by decide +kernel
theorem dX5_why_10 : decode cX5_why 10 = .ok (.bipush 9, 2) := by decide +kernel
theorem dX5_why_12 : decode cX5_why 12 = .ok (.invokestatic 45, 3) := by decide +kernel
theorem dX5_why_15 : decode cX5_why 15 = .ok (.ifCond .eq 12, 3) := by decide +kernel
theorem dX5_why_18 : decode cX5_why 18 = .ok (.aload_n 0, 1) := by decide +kernel
theorem dX5_why_19 : decode cX5_why 19 = .ok (.iload_n 1, 1) := by decide +kernel
theorem dX5_why_20 : decode cX5_why 20 = .ok (.iload_n 2, 1) := by decide +kernel
theorem dX5_why_21 : decode cX5_why 21 = .ok (.invokevirtual 87, 3) := by decide +kernel
theorem dX5_why_24 : decode cX5_why 24 = .ok (.goto 5, 3) := by decide +kernel
theorem dX5_why_27 : decode cX5_why 27 = .ok (.ldc 86, 2) := by decide +kernel
theorem dX5_why_29 : decode cX5_why 29 = .ok (.ireturn, 1) := by decide +kernel
set_option maxRecDepth 20000 in
theorem ggX5_ring_X5_isKind : GoodIn wsX5_ring wsX5_isKind := goodIn_r _ [7, 8, 9, 6, 10] (by decide +kernel) (by decide +kernel)
set_option maxRecDepth 20000 in
theorem gX5_ring_X5_isKind : GoodIn wsX5_ring (va_wsS RX5 83 yX5_isKind wsX5_isKind) := goodIn_app (goodIn_of _ (by decide +kernel)) ggX5_ring_X5_isKind
set_option maxRecDepth 20000 in
theorem ggX5_ring_X5_rings : GoodIn wsX5_ring wsX5_rings := goodIn_r _ [14, 2, 15, 16, 17, 18, 19, 6, 20, 21, 22, 23, 24, 25, 26, 27, 28, 29, 30, 31, 32, 33, 34, 35, 36, 37, 38, 39, 40, 41, 42, 43, 44, 45, 46, 47, 48, 49, 50] (by decide +kernel) (by decide +kernel)
set_option maxRecDepth 20000 in
theorem gX5_ring_X5_rings : GoodIn wsX5_ring (wsV RX5 119 RX5 yX5_rings wsX5_rings) := goodIn_app (goodIn_of _ (by decide +kernel)) ggX5_ring_X5_rings
theorem dX5_ring_0 : decode cX5_ring 0 = .ok (.iload_n 1, 1) := by decide +kernel
theorem dX5_ring_1 : decode cX5_ring 1 = .ok (.invokestatic 83, 3) := by decide +kernel
theorem dX5_ring_4 : decode cX5_ring 4 = .ok (.ifCond .eq 7, 3) := by decide +kernel
theorem dX5_ring_7 : decode cX5_ring 7 = .ok (.iload_n 2, 1) := by decide +kernel
theorem dX5_ring_8 : decode cX5_ring 8 = .ok (.ifCond .ge 6, 3) := by decide +kernel
theorem dX5_ring_11 : decode cX5_ring 11 = .ok (.ldc 86, 2) := by decide +kernel
theorem dX5_ring_13 : decode cX5_ring 13 = .ok (.ireturn, 1) := by decide +kernel
theorem dX5_ring_14 : decode cX5_ring 14 = .ok (.iload_n 2, 1) := by decide +kernel
theorem dX5_ring_15 : decode cX5_ring 15 = .ok (.aload_n 0, 1) := by decide +kernel
theorem dX5_ring_16 : decode cX5_ring 16 = .ok (.iload_n 1, 1) := by decide +kernel
theorem dX5_ring_17 : decode cX5_ring 17 = .ok (.invokevirtual 119, 3) := by decide +kernel
theorem dX5_ring_20 : decode cX5_ring 20 = .ok (.if_icmp .ge 12, 3) := by decide +kernel
theorem dX5_ring_23 : decode cX5_ring 23 = .ok (.aload_n 0, 1) := by decide +kernel
theorem dX5_ring_24 : decode cX5_ring 24 = .ok (.getfield 31, 3) := by decide +kernel
theorem dX5_ring_27 : decode cX5_ring 27 = .ok (.iload_n 2, 1) := by decide +kernel
theorem dX5_ring_28 : decode cX5_ring 28 = .ok (.iaload, 1) := by decide +kernel
theorem dX5_ring_29 : decode cX5_ring 29 = .ok (.goto 5, 3) := by decide +kernel
theorem dX5_ring_32 : decode cX5_ring 32 = .ok (.ldc 57, 2) := by decide +kernel
theorem dX5_ring_34 : decode cX5_ring 34 = .ok (.ireturn, 1) := by decide +kernel
set_option maxRecDepth 20000 in
theorem ggX5_amount_X5_isKind : GoodIn wsX5_amount wsX5_isKind := goodIn_r _ [6, 7, 8, 5, 9] (by decide +kernel) (by decide +kernel)
set_option maxRecDepth 20000 in
theorem gX5_amount_X5_isKind : GoodIn wsX5_amount (va_wsS RX5 83 yX5_isKind wsX5_isKind) := goodIn_app (goodIn_of _ (by decide +kernel)) ggX5_amount_X5_isKind
set_option maxRecDepth 20000 in
theorem ggX5_amount_X5_rings : GoodIn wsX5_amount wsX5_rings := goodIn_r _ [13, 14, 15, 16, 17, 18, 19, 5, 20, 21, 22, 23, 24, 25, 26, 27, 28, 29, 30, 31, 32, 41, 42, 43, 44, 45, 46, 47, 48, 49, 50, 51, 52, 53, 54, 55, 56, 57, 58] (by decide +kernel) (by decide +kernel)
set_option maxRecDepth 20000 in
theorem gX5_amount_X5_rings : GoodIn wsX5_amount (wsV RX5 119 RX5 yX5_rings wsX5_rings) := goodIn_app (goodIn_of _ (by decide +kernel)) ggX5_amount_X5_rings
set_option maxRecDepth 20000 in
theorem ggX5_amount_X5_amountOf : GoodIn wsX5_amount wsX5_amountOf := goodIn_r _ [36, 14, 37, 38, 39, 5, 40, 21, 22, 23, 24, 25, 41, 42, 43, 44, 45, 46, 47, 48, 49, 50, 51, 52, 53, 54, 55, 56, 57, 58] (by decide +kernel) (by decide +kernel)
set_option maxRecDepth 20000 in
theorem gX5_amount_X5_amountOf : GoodIn wsX5_amount (wsV RX5 122 RX5 yX5_amountOf wsX5_amountOf) := goodIn_app (goodIn_of _ (by decide +kernel)) ggX5_amount_X5_amountOf
theorem dX5_amount_0 : decode cX5_amount 0 = .ok (.iload_n 1, 1) := by decide +kernel
theorem dX5_amount_1 : decode cX5_amount 1 = .ok (.invokestatic 83, 3) := by decide +kernel
theorem dX5_amount_4 : decode cX5_amount 4 = .ok (.ifCond .ne 6, 3) := by decide +kernel
theorem dX5_amount_7 : decode cX5_amount 7 = .ok (.ldc 86, 2) := by decide +kernel
theorem dX5_amount_9 : decode cX5_amount 9 = .ok (.ireturn, 1) := by decide +kernel
theorem dX5_amount_10 : decode cX5_amount 10 = .ok (.aload_n 0, 1) := by decide +kernel
theorem dX5_amount_11 : decode cX5_amount 11 = .ok (.iload_n 1, 1) := by decide +kernel
theorem dX5_amount_12 : decode cX5_amount 12 = .ok (.invokevirtual 119, 3) := by decide +kernel
theorem dX5_amount_15 : decode cX5_amount 15 = .ok (.istore_n 2, 1) := by decide +kernel
theorem dX5_amount_16 : decode cX5_amount 16 = .ok (.iload_n 2, 1) := by decide +kernel
theorem dX5_amount_17 : decode cX5_amount 17 = .ok (.ifCond .le 12, 3) := by decide +kernel
theorem dX5_amount_20 : decode cX5_amount 20 = .ok (.aload_n 0, 1) := by decide +kernel
theorem dX5_amount_21 : decode cX5_amount 21 = .ok (.iload_n 2, 1) := by decide +kernel
theorem dX5_amount_22 : decode cX5_amount 22 = .ok (.iload_n 1, 1) := by decide +kernel
theorem dX5_amount_23 : decode cX5_amount 23 = .ok (.invokevirtual 122, 3) := by decide +kernel
theorem dX5_amount_26 : decode cX5_amount 26 = .ok (.goto 5, 3) := by decide +kernel
theorem dX5_amount_29 : decode cX5_amount 29 = .ok (.ldc 57, 2) := by decide +kernel
theorem dX5_amount_31 : decode cX5_amount 31 = .ok (.ireturn, 1) := by decide +kernel
set_option maxRecDepth 20000 in
theorem ggX5_ifCleared_X5_isKind : GoodIn wsX5_ifCleared wsX5_isKind := goodIn_r _ [7, 8, 9, 6, 10] (by decide +kernel) (by decide +kernel)
set_option maxRecDepth 20000 in
theorem gX5_ifCleared_X5_isKind : GoodIn wsX5_ifCleared (va_wsS RX5 83 yX5_isKind wsX5_isKind) := goodIn_app (goodIn_of _ (by decide +kernel)) ggX5_ifCleared_X5_isKind
set_option maxRecDepth 20000 in
theorem ggX5_ifCleared_X5_in : GoodIn wsX5_ifCleared wsX5_in := goodIn_r _ [10] (by decide +kernel) (by decide +kernel)
set_option maxRecDepth 20000 in
theorem gX5_ifCleared_X5_in : GoodIn wsX5_ifCleared (va_wsS RX5 45 yX5_in wsX5_in) := goodIn_app (goodIn_of _ (by decide +kernel)) ggX5_ifCleared_X5_in
set_option maxRecDepth 20000 in
theorem ggX5_ifCleared_X5_copies : GoodIn wsX5_ifCleared wsX5_copies := goodIn_r _ [13] (by decide +kernel) (by decide +kernel)
set_option maxRecDepth 20000 in
theorem gX5_ifCleared_X5_copies : GoodIn wsX5_ifCleared (va_wsS RX5 131 yX5_copies wsX5_copies) := goodIn_app (goodIn_of _ (by decide +kernel)) ggX5_ifCleared_X5_copies
set_option maxRecDepth 20000 in
theorem ggX5_ifCleared_X5_clears : GoodIn wsX5_ifCleared wsX5_clears := goodIn_r _ [17, 18, 2, 19, 20, 21, 6, 22, 23, 24, 25, 26, 27, 28, 29, 30, 31, 32, 33, 34, 35, 36, 37, 38, 39, 40, 41, 42, 43, 44, 45, 46, 47, 48, 49, 50, 51, 52, 53, 54, 55, 56, 57, 58, 59, 60, 61, 62, 63, 64, 65, 66, 67, 68, 69, 70, 71, 72, 73, 74, 75, 76, 77, 78, 79, 80, 81, 82, 83, 84, 85] (by decide +kernel) (by decide +kernel)
set_option maxRecDepth 20000 in
theorem gX5_ifCleared_X5_clears : GoodIn wsX5_ifCleared (wsV RX5 125 RX5 yX5_clears wsX5_clears) := goodIn_app (goodIn_of _ (by decide +kernel)) ggX5_ifCleared_X5_clears
theorem dX5_ifCleared_0 : decode cX5_ifCleared 0 = .ok (.iload_n 1, 1) := by decide +kernel
theorem dX5_ifCleared_1 : decode cX5_ifCleared 1 = .ok (.invokestatic 83, 3) := by decide +kernel
theorem dX5_ifCleared_4 : decode cX5_ifCleared 4 = .ok (.ifCond .eq 12, 3) := by decide +kernel
theorem dX5_ifCleared_7 : decode cX5_ifCleared 7 = .ok (.iload_n 2, 1) := by decide +kernel
theorem dX5_ifCleared_8 : decode cX5_ifCleared 8 = .ok (.iconst 0, 1) := by decide +kernel
theorem dX5_ifCleared_9 : decode cX5_ifCleared 9 = .ok (.iconst 2, 1) := by decide +kernel
theorem dX5_ifCleared_10 : decode cX5_ifCleared 10 = .ok (.invokestatic 45, 3) := by decide +kernel
theorem dX5_ifCleared_13 : decode cX5_ifCleared 13 = .ok (.ifCond .ne 6, 3) := by decide +kernel
theorem dX5_ifCleared_16 : decode cX5_ifCleared 16 = .ok (.ldc 86, 2) := by decide +kernel
theorem dX5_ifCleared_18 : decode cX5_ifCleared 18 = .ok (.ireturn, 1) := by decide +kernel
theorem dX5_ifCleared_19 : decode cX5_ifCleared 19 = .ok (.aload_n 0, 1) := by decide +kernel
theorem dX5_ifCleared_20 : decode cX5_ifCleared 20 = .ok (.getfield 7, 3) := by decide +kernel
theorem dX5_ifCleared_23 : decode cX5_ifCleared 23 = .ok (.aload_n 0, 1) := by decide +kernel
theorem dX5_ifCleared_24 : decode cX5_ifCleared 24 = .ok (.getfield 19, 3) := by decide +kernel
theorem dX5_ifCleared_27 : decode cX5_ifCleared 27 = .ok (.invokestatic 131, 3) := by decide +kernel
theorem dX5_ifCleared_30 : decode cX5_ifCleared 30 = .ok (.aload_n 0, 1) := by decide +kernel
theorem dX5_ifCleared_31 : decode cX5_ifCleared 31 = .ok (.iload_n 1, 1) := by decide +kernel
theorem dX5_ifCleared_32 : decode cX5_ifCleared 32 = .ok (.invokevirtual 125, 3) := by decide +kernel
theorem dX5_ifCleared_35 : decode cX5_ifCleared 35 = .ok (.istore_n 3, 1) := by decide +kernel
theorem dX5_ifCleared_36 : decode cX5_ifCleared 36 = .ok (.iload_n 2, 1) := by decide +kernel
theorem dX5_ifCleared_37 : decode cX5_ifCleared 37 = .ok (.ifCond .ne 7, 3) := by decide +kernel
theorem dX5_ifCleared_40 : decode cX5_ifCleared 40 = .ok (.iload_n 3, 1) := by decide +kernel
theorem dX5_ifCleared_41 : decode cX5_ifCleared 41 = .ok (.goto 36, 3) := by decide +kernel
theorem dX5_ifCleared_44 : decode cX5_ifCleared 44 = .ok (.iload_n 2, 1) := by decide +kernel
theorem dX5_ifCleared_45 : decode cX5_ifCleared 45 = .ok (.iconst 1, 1) := by decide +kernel
theorem dX5_ifCleared_46 : decode cX5_ifCleared 46 = .ok (.if_icmp .ne 23, 3) := by decide +kernel
theorem dX5_ifCleared_49 : decode cX5_ifCleared 49 = .ok (.aload_n 0, 1) := by decide +kernel
theorem dX5_ifCleared_50 : decode cX5_ifCleared 50 = .ok (.getfield 7, 3) := by decide +kernel
theorem dX5_ifCleared_53 : decode cX5_ifCleared 53 = .ok (.sipush 296, 3) := by decide +kernel
theorem dX5_ifCleared_56 : decode cX5_ifCleared 56 = .ok (.iaload, 1) := by decide +kernel
theorem dX5_ifCleared_57 : decode cX5_ifCleared 57 = .ok (.aload_n 0, 1) := by decide +kernel
theorem dX5_ifCleared_58 : decode cX5_ifCleared 58 = .ok (.getfield 19, 3) := by decide +kernel
theorem dX5_ifCleared_61 : decode cX5_ifCleared 61 = .ok (.sipush 296, 3) := by decide +kernel
theorem dX5_ifCleared_64 : decode cX5_ifCleared 64 = .ok (.iaload, 1) := by decide +kernel
theorem dX5_ifCleared_65 : decode cX5_ifCleared 65 = .ok (.isub, 1) := by decide +kernel
theorem dX5_ifCleared_66 : decode cX5_ifCleared 66 = .ok (.goto 11, 3) := by decide +kernel
theorem dX5_ifCleared_69 : decode cX5_ifCleared 69 = .ok (.aload_n 0, 1) := by decide +kernel
theorem dX5_ifCleared_70 : decode cX5_ifCleared 70 = .ok (.getfield 7, 3) := by decide +kernel
theorem dX5_ifCleared_73 : decode cX5_ifCleared 73 = .ok (.sipush 290, 3) := by decide +kernel
theorem dX5_ifCleared_76 : decode cX5_ifCleared 76 = .ok (.iaload, 1) := by decide +kernel
theorem dX5_ifCleared_77 : decode cX5_ifCleared 77 = .ok (.istore 4, 2) := by decide +kernel
theorem dX5_ifCleared_79 : decode cX5_ifCleared 79 = .ok (.aload_n 0, 1) := by decide +kernel
theorem dX5_ifCleared_80 : decode cX5_ifCleared 80 = .ok (.getfield 19, 3) := by decide +kernel
theorem dX5_ifCleared_83 : decode cX5_ifCleared 83 = .ok (.aload_n 0, 1) := by decide +kernel
theorem dX5_ifCleared_84 : decode cX5_ifCleared 84 = .ok (.getfield 7, 3) := by decide +kernel
theorem dX5_ifCleared_87 : decode cX5_ifCleared 87 = .ok (.invokestatic 131, 3) := by decide +kernel
theorem dX5_ifCleared_90 : decode cX5_ifCleared 90 = .ok (.iload 4, 2) := by decide +kernel
theorem dX5_ifCleared_92 : decode cX5_ifCleared 92 = .ok (.ireturn, 1) := by decide +kernel
set_option maxRecDepth 20000 in
theorem ggX5_chain_X5_isPair : GoodIn wsX5_chain wsX5_isPair := goodIn_r _ [8, 9, 10, 11, 7, 12, 13, 14, 15, 16, 28, 29, 30, 31, 32, 33, 34, 35, 36, 37, 38, 39, 40, 41, 42, 43, 44, 45] (by decide +kernel) (by decide +kernel)
set_option maxRecDepth 20000 in
theorem gX5_chain_X5_isPair : GoodIn wsX5_chain (wsV RX5 79 RX5 yX5_isPair wsX5_isPair) := goodIn_app (goodIn_of _ (by decide +kernel)) ggX5_chain_X5_isPair
set_option maxRecDepth 20000 in
theorem ggX5_chain_X5_isKind : GoodIn wsX5_chain wsX5_isKind := goodIn_r _ [19, 14, 15, 7, 16] (by decide +kernel) (by decide +kernel)
set_option maxRecDepth 20000 in
theorem gX5_chain_X5_isKind : GoodIn wsX5_chain (va_wsS RX5 83 yX5_isKind wsX5_isKind) := goodIn_app (goodIn_of _ (by decide +kernel)) ggX5_chain_X5_isKind
set_option maxRecDepth 20000 in
theorem ggX5_chain_X5_looks : GoodIn wsX5_chain wsX5_looks := goodIn_r _ [23, 2, 13, 24, 25, 26, 7, 27, 28, 29, 30, 31, 32, 33, 34, 35, 36, 37, 38, 39, 40, 41, 42, 43, 44, 45] (by decide +kernel) (by decide +kernel)
set_option maxRecDepth 20000 in
theorem gX5_chain_X5_looks : GoodIn wsX5_chain (wsV RX5 109 RX5 yX5_looks wsX5_looks) := goodIn_app (goodIn_of _ (by decide +kernel)) ggX5_chain_X5_looks
theorem dX5_chain_0 : decode cX5_chain 0 = .ok (.aload_n 0, 1) := by decide +kernel
theorem dX5_chain_1 : decode cX5_chain 1 = .ok (.iload_n 1, 1) := by decide +kernel
theorem dX5_chain_2 : decode cX5_chain 2 = .ok (.iload_n 2, 1) := by decide +kernel
theorem dX5_chain_3 : decode cX5_chain 3 = .ok (.invokevirtual 79, 3) := by decide +kernel
theorem dX5_chain_6 : decode cX5_chain 6 = .ok (.ifCond .eq 10, 3) := by decide +kernel
theorem dX5_chain_9 : decode cX5_chain 9 = .ok (.iload_n 3, 1) := by decide +kernel
theorem dX5_chain_10 : decode cX5_chain 10 = .ok (.invokestatic 83, 3) := by decide +kernel
theorem dX5_chain_13 : decode cX5_chain 13 = .ok (.ifCond .ne 6, 3) := by decide +kernel
theorem dX5_chain_16 : decode cX5_chain 16 = .ok (.ldc 86, 2) := by decide +kernel
theorem dX5_chain_18 : decode cX5_chain 18 = .ok (.ireturn, 1) := by decide +kernel
theorem dX5_chain_19 : decode cX5_chain 19 = .ok (.aload_n 0, 1) := by decide +kernel
theorem dX5_chain_20 : decode cX5_chain 20 = .ok (.iload_n 3, 1) := by decide +kernel
theorem dX5_chain_21 : decode cX5_chain 21 = .ok (.invokevirtual 109, 3) := by decide +kernel
theorem dX5_chain_24 : decode cX5_chain 24 = .ok (.iconst 1, 1) := by decide +kernel
theorem dX5_chain_25 : decode cX5_chain 25 = .ok (.iload_n 1, 1) := by decide +kernel
theorem dX5_chain_26 : decode cX5_chain 26 = .ok (.ishl, 1) := by decide +kernel
theorem dX5_chain_27 : decode cX5_chain 27 = .ok (.istore 4, 2) := by decide +kernel
theorem dX5_chain_29 : decode cX5_chain 29 = .ok (.iconst 1, 1) := by decide +kernel
theorem dX5_chain_30 : decode cX5_chain 30 = .ok (.istore 5, 2) := by decide +kernel
theorem dX5_chain_32 : decode cX5_chain 32 = .ok (.iload 5, 2) := by decide +kernel
theorem dX5_chain_34 : decode cX5_chain 34 = .ok (.bipush 8, 2) := by decide +kernel
theorem dX5_chain_36 : decode cX5_chain 36 = .ok (.if_icmp .ge 73, 3) := by decide +kernel
theorem dX5_chain_39 : decode cX5_chain 39 = .ok (.iload 4, 2) := by decide +kernel
theorem dX5_chain_41 : decode cX5_chain 41 = .ok (.istore 6, 2) := by decide +kernel
theorem dX5_chain_43 : decode cX5_chain 43 = .ok (.iconst 0, 1) := by decide +kernel
theorem dX5_chain_44 : decode cX5_chain 44 = .ok (.istore 7, 2) := by decide +kernel
theorem dX5_chain_46 : decode cX5_chain 46 = .ok (.iload 7, 2) := by decide +kernel
theorem dX5_chain_48 : decode cX5_chain 48 = .ok (.bipush 8, 2) := by decide +kernel
theorem dX5_chain_50 : decode cX5_chain 50 = .ok (.if_icmp .ge 36, 3) := by decide +kernel
theorem dX5_chain_53 : decode cX5_chain 53 = .ok (.iload 6, 2) := by decide +kernel
theorem dX5_chain_55 : decode cX5_chain 55 = .ok (.iload 4, 2) := by decide +kernel
theorem dX5_chain_57 : decode cX5_chain 57 = .ok (.iload 7, 2) := by decide +kernel
theorem dX5_chain_59 : decode cX5_chain 59 = .ok (.ishr, 1) := by decide +kernel
theorem dX5_chain_60 : decode cX5_chain 60 = .ok (.iconst 1, 1) := by decide +kernel
theorem dX5_chain_61 : decode cX5_chain 61 = .ok (.iand, 1) := by decide +kernel
theorem dX5_chain_62 : decode cX5_chain 62 = .ok (.iconst 1, 1) := by decide +kernel
theorem dX5_chain_63 : decode cX5_chain 63 = .ok (.if_icmp .ne 13, 3) := by decide +kernel
theorem dX5_chain_66 : decode cX5_chain 66 = .ok (.aload_n 0, 1) := by decide +kernel
theorem dX5_chain_67 : decode cX5_chain 67 = .ok (.getfield 25, 3) := by decide +kernel
theorem dX5_chain_70 : decode cX5_chain 70 = .ok (.iload 7, 2) := by decide +kernel
theorem dX5_chain_72 : decode cX5_chain 72 = .ok (.iaload, 1) := by decide +kernel
theorem dX5_chain_73 : decode cX5_chain 73 = .ok (.goto 4, 3) := by decide +kernel
theorem dX5_chain_76 : decode cX5_chain 76 = .ok (.iconst 0, 1) := by decide +kernel
theorem dX5_chain_77 : decode cX5_chain 77 = .ok (.ior, 1) := by decide +kernel
theorem dX5_chain_78 : decode cX5_chain 78 = .ok (.istore 6, 2) := by decide +kernel
theorem dX5_chain_80 : decode cX5_chain 80 = .ok (.iinc 7 1, 3) := by decide +kernel
theorem dX5_chain_83 : decode cX5_chain 83 = .ok (.goto (-37), 3) := by decide +kernel
theorem dX5_chain_86 : decode cX5_chain 86 = .ok (.iload 6, 2) := by decide +kernel
theorem dX5_chain_88 : decode cX5_chain 88 = .ok (.iload_n 2, 1) := by decide +kernel
theorem dX5_chain_89 : decode cX5_chain 89 = .ok (.ishr, 1) := by decide +kernel
theorem dX5_chain_90 : decode cX5_chain 90 = .ok (.iconst 1, 1) := by decide +kernel
theorem dX5_chain_91 : decode cX5_chain 91 = .ok (.iand, 1) := by decide +kernel
theorem dX5_chain_92 : decode cX5_chain 92 = .ok (.iconst 1, 1) := by decide +kernel
theorem dX5_chain_93 : decode cX5_chain 93 = .ok (.if_icmp .ne 6, 3) := by decide +kernel
theorem dX5_chain_96 : decode cX5_chain 96 = .ok (.iload 5, 2) := by decide +kernel
theorem dX5_chain_98 : decode cX5_chain 98 = .ok (.ireturn, 1) := by decide +kernel
theorem dX5_chain_99 : decode cX5_chain 99 = .ok (.iload 6, 2) := by decide +kernel
theorem dX5_chain_101 : decode cX5_chain 101 = .ok (.istore 4, 2) := by decide +kernel
theorem dX5_chain_103 : decode cX5_chain 103 = .ok (.iinc 5 1, 3) := by decide +kernel
theorem dX5_chain_106 : decode cX5_chain 106 = .ok (.goto (-74), 3) := by decide +kernel
theorem dX5_chain_109 : decode cX5_chain 109 = .ok (.ldc 57, 2) := by decide +kernel
theorem dX5_chain_111 : decode cX5_chain 111 = .ok (.ireturn, 1) := by decide +kernel
set_option maxRecDepth 20000 in
theorem ggX5_deepest_X5_isKind : GoodIn wsX5_deepest wsX5_isKind := goodIn_r _ [7, 8, 9, 6, 10] (by decide +kernel) (by decide +kernel)
set_option maxRecDepth 20000 in
theorem gX5_deepest_X5_isKind : GoodIn wsX5_deepest (va_wsS RX5 83 yX5_isKind wsX5_isKind) := goodIn_app (goodIn_of _ (by decide +kernel)) ggX5_deepest_X5_isKind
set_option maxRecDepth 20000 in
theorem ggX5_deepest_X5_of : GoodIn wsX5_deepest wsX5_of := goodIn_r _ [14, 3, 15, 16, 17, 18, 19, 20, 21, 22, 23, 24, 25, 26, 27, 28, 29, 30, 31, 32] (by decide +kernel) (by decide +kernel)
set_option maxRecDepth 20000 in
theorem gX5_deepest_X5_of : GoodIn wsX5_deepest (wsV RX5 53 RX5 yX5_of wsX5_of) := goodIn_app (goodIn_of _ (by decide +kernel)) ggX5_deepest_X5_of
theorem dX5_deepest_0 : decode cX5_deepest 0 = .ok (.iload_n 1, 1) := by decide +kernel
theorem dX5_deepest_1 : decode cX5_deepest 1 = .ok (.invokestatic 83, 3) := by decide +kernel
theorem dX5_deepest_4 : decode cX5_deepest 4 = .ok (.ifCond .ne 6, 3) := by decide +kernel
theorem dX5_deepest_7 : decode cX5_deepest 7 = .ok (.ldc 86, 2) := by decide +kernel
theorem dX5_deepest_9 : decode cX5_deepest 9 = .ok (.ireturn, 1) := by decide +kernel
theorem dX5_deepest_10 : decode cX5_deepest 10 = .ok (.ldc 57, 2) := by decide +kernel
theorem dX5_deepest_12 : decode cX5_deepest 12 = .ok (.istore_n 2, 1) := by decide +kernel
theorem dX5_deepest_13 : decode cX5_deepest 13 = .ok (.iconst 0, 1) := by decide +kernel
theorem dX5_deepest_14 : decode cX5_deepest 14 = .ok (.istore_n 3, 1) := by decide +kernel
theorem dX5_deepest_15 : decode cX5_deepest 15 = .ok (.iconst 0, 1) := by decide +kernel
theorem dX5_deepest_16 : decode cX5_deepest 16 = .ok (.istore 4, 2) := by decide +kernel
theorem dX5_deepest_18 : decode cX5_deepest 18 = .ok (.iload 4, 2) := by decide +kernel
theorem dX5_deepest_20 : decode cX5_deepest 20 = .ok (.aload_n 0, 1) := by decide +kernel
theorem dX5_deepest_21 : decode cX5_deepest 21 = .ok (.getfield 7, 3) := by decide +kernel
theorem dX5_deepest_24 : decode cX5_deepest 24 = .ok (.sipush 289, 3) := by decide +kernel
theorem dX5_deepest_27 : decode cX5_deepest 27 = .ok (.iaload, 1) := by decide +kernel
theorem dX5_deepest_28 : decode cX5_deepest 28 = .ok (.if_icmp .ge 99, 3) := by decide +kernel
theorem dX5_deepest_31 : decode cX5_deepest 31 = .ok (.iconst 0, 1) := by decide +kernel
theorem dX5_deepest_32 : decode cX5_deepest 32 = .ok (.istore 5, 2) := by decide +kernel
theorem dX5_deepest_34 : decode cX5_deepest 34 = .ok (.iconst 0, 1) := by decide +kernel
theorem dX5_deepest_35 : decode cX5_deepest 35 = .ok (.istore 6, 2) := by decide +kernel
theorem dX5_deepest_37 : decode cX5_deepest 37 = .ok (.iload 6, 2) := by decide +kernel
theorem dX5_deepest_39 : decode cX5_deepest 39 = .ok (.aload_n 0, 1) := by decide +kernel
theorem dX5_deepest_40 : decode cX5_deepest 40 = .ok (.getfield 7, 3) := by decide +kernel
theorem dX5_deepest_43 : decode cX5_deepest 43 = .ok (.sipush 290, 3) := by decide +kernel
theorem dX5_deepest_46 : decode cX5_deepest 46 = .ok (.iaload, 1) := by decide +kernel
theorem dX5_deepest_47 : decode cX5_deepest 47 = .ok (.if_icmp .ge 48, 3) := by decide +kernel
theorem dX5_deepest_50 : decode cX5_deepest 50 = .ok (.iload 5, 2) := by decide +kernel
theorem dX5_deepest_52 : decode cX5_deepest 52 = .ok (.aload_n 0, 1) := by decide +kernel
theorem dX5_deepest_53 : decode cX5_deepest 53 = .ok (.iload 6, 2) := by decide +kernel
theorem dX5_deepest_55 : decode cX5_deepest 55 = .ok (.iconst 0, 1) := by decide +kernel
theorem dX5_deepest_56 : decode cX5_deepest 56 = .ok (.invokevirtual 53, 3) := by decide +kernel
theorem dX5_deepest_59 : decode cX5_deepest 59 = .ok (.iload 4, 2) := by decide +kernel
theorem dX5_deepest_61 : decode cX5_deepest 61 = .ok (.if_icmp .ne 24, 3) := by decide +kernel
theorem dX5_deepest_64 : decode cX5_deepest 64 = .ok (.aload_n 0, 1) := by decide +kernel
theorem dX5_deepest_65 : decode cX5_deepest 65 = .ok (.iload 6, 2) := by decide +kernel
theorem dX5_deepest_67 : decode cX5_deepest 67 = .ok (.iconst 2, 1) := by decide +kernel
theorem dX5_deepest_68 : decode cX5_deepest 68 = .ok (.invokevirtual 53, 3) := by decide +kernel
theorem dX5_deepest_71 : decode cX5_deepest 71 = .ok (.iload_n 1, 1) := by decide +kernel
theorem dX5_deepest_72 : decode cX5_deepest 72 = .ok (.if_icmp .ne 13, 3) := by decide +kernel
theorem dX5_deepest_75 : decode cX5_deepest 75 = .ok (.aload_n 0, 1) := by decide +kernel
theorem dX5_deepest_76 : decode cX5_deepest 76 = .ok (.iload 6, 2) := by decide +kernel
theorem dX5_deepest_78 : decode cX5_deepest 78 = .ok (.iconst 3, 1) := by decide +kernel
theorem dX5_deepest_79 : decode cX5_deepest 79 = .ok (.invokevirtual 53, 3) := by decide +kernel
theorem dX5_deepest_82 : decode cX5_deepest 82 = .ok (.goto 4, 3) := by decide +kernel
theorem dX5_deepest_85 : decode cX5_deepest 85 = .ok (.iconst 0, 1) := by decide +kernel
theorem dX5_deepest_86 : decode cX5_deepest 86 = .ok (.iadd, 1) := by decide +kernel
theorem dX5_deepest_87 : decode cX5_deepest 87 = .ok (.istore 5, 2) := by decide +kernel
theorem dX5_deepest_89 : decode cX5_deepest 89 = .ok (.iinc 6 1, 3) := by decide +kernel
theorem dX5_deepest_92 : decode cX5_deepest 92 = .ok (.goto (-55), 3) := by decide +kernel
theorem dX5_deepest_95 : decode cX5_deepest 95 = .ok (.iload 5, 2) := by decide +kernel
theorem dX5_deepest_97 : decode cX5_deepest 97 = .ok (.iload_n 3, 1) := by decide +kernel
theorem dX5_deepest_98 : decode cX5_deepest 98 = .ok (.if_icmp .le 8, 3) := by decide +kernel
theorem dX5_deepest_101 : decode cX5_deepest 101 = .ok (.iload 4, 2) := by decide +kernel
theorem dX5_deepest_103 : decode cX5_deepest 103 = .ok (.goto 4, 3) := by decide +kernel
theorem dX5_deepest_106 : decode cX5_deepest 106 = .ok (.iload_n 2, 1) := by decide +kernel
theorem dX5_deepest_107 : decode cX5_deepest 107 = .ok (.istore_n 2, 1) := by decide +kernel
theorem dX5_deepest_108 : decode cX5_deepest 108 = .ok (.iload 5, 2) := by decide +kernel
theorem dX5_deepest_110 : decode cX5_deepest 110 = .ok (.iload_n 3, 1) := by decide +kernel
theorem dX5_deepest_111 : decode cX5_deepest 111 = .ok (.if_icmp .le 8, 3) := by decide +kernel
theorem dX5_deepest_114 : decode cX5_deepest 114 = .ok (.iload 5, 2) := by decide +kernel
theorem dX5_deepest_116 : decode cX5_deepest 116 = .ok (.goto 4, 3) := by decide +kernel
theorem dX5_deepest_119 : decode cX5_deepest 119 = .ok (.iload_n 3, 1) := by decide +kernel
theorem dX5_deepest_120 : decode cX5_deepest 120 = .ok (.istore_n 3, 1) := by decide +kernel
theorem dX5_deepest_121 : decode cX5_deepest 121 = .ok (.iinc 4 1, 3) := by decide +kernel
theorem dX5_deepest_124 : decode cX5_deepest 124 = .ok (.goto (-106), 3) := by decide +kernel
theorem dX5_deepest_127 : decode cX5_deepest 127 = .ok (.iload_n 2, 1) := by decide +kernel
theorem dX5_deepest_128 : decode cX5_deepest 128 = .ok (.ireturn, 1) := by decide +kernel
set_option maxRecDepth 20000 in
theorem ggX5_spoilsIn_X5_isPupil : GoodIn wsX5_spoilsIn wsX5_isPupil := goodIn_r _ [8, 3, 9, 10, 7, 11, 16, 17, 18, 19, 20, 21, 22, 23, 24, 25, 26, 27, 28, 29, 30, 31, 32, 33] (by decide +kernel) (by decide +kernel)
set_option maxRecDepth 20000 in
theorem gX5_spoilsIn_X5_isPupil : GoodIn wsX5_spoilsIn (wsV RX5 49 RX5 yX5_isPupil wsX5_isPupil) := goodIn_app (goodIn_of _ (by decide +kernel)) ggX5_spoilsIn_X5_isPupil
set_option maxRecDepth 20000 in
theorem ggX5_spoilsIn_X5_of : GoodIn wsX5_spoilsIn wsX5_of := goodIn_r _ [15, 3, 16, 17, 18, 19, 20, 21, 22, 23, 24, 25, 26, 27, 28, 29, 30, 31, 32, 33] (by decide +kernel) (by decide +kernel)
set_option maxRecDepth 20000 in
theorem gX5_spoilsIn_X5_of : GoodIn wsX5_spoilsIn (wsV RX5 53 RX5 yX5_of wsX5_of) := goodIn_app (goodIn_of _ (by decide +kernel)) ggX5_spoilsIn_X5_of
theorem dX5_spoilsIn_0 : decode cX5_spoilsIn 0 = .ok (.aload_n 0, 1) := by decide +kernel
theorem dX5_spoilsIn_1 : decode cX5_spoilsIn 1 = .ok (.iload_n 1, 1) := by decide +kernel
theorem dX5_spoilsIn_2 : decode cX5_spoilsIn 2 = .ok (.invokevirtual 49, 3) := by decide +kernel
theorem dX5_spoilsIn_5 : decode cX5_spoilsIn 5 = .ok (.ifCond .ne 6, 3) := by decide +kernel
theorem dX5_spoilsIn_8 : decode cX5_spoilsIn 8 = .ok (.ldc 86, 2) := by decide +kernel
theorem dX5_spoilsIn_10 : decode cX5_spoilsIn 10 = .ok (.ireturn, 1) := by decide +kernel
theorem dX5_spoilsIn_11 : decode cX5_spoilsIn 11 = .ok (.ldc 57, 2) := by decide +kernel
theorem dX5_spoilsIn_13 : decode cX5_spoilsIn 13 = .ok (.istore_n 2, 1) := by decide +kernel
theorem dX5_spoilsIn_14 : decode cX5_spoilsIn 14 = .ok (.iconst 0, 1) := by decide +kernel
theorem dX5_spoilsIn_15 : decode cX5_spoilsIn 15 = .ok (.istore_n 3, 1) := by decide +kernel
theorem dX5_spoilsIn_16 : decode cX5_spoilsIn 16 = .ok (.iload_n 3, 1) := by decide +kernel
theorem dX5_spoilsIn_17 : decode cX5_spoilsIn 17 = .ok (.aload_n 0, 1) := by decide +kernel
theorem dX5_spoilsIn_18 : decode cX5_spoilsIn 18 = .ok (.getfield 7, 3) := by decide +kernel
theorem dX5_spoilsIn_21 : decode cX5_spoilsIn 21 = .ok (.sipush 290, 3) := by decide +kernel
theorem dX5_spoilsIn_24 : decode cX5_spoilsIn 24 = .ok (.iaload, 1) := by decide +kernel
theorem dX5_spoilsIn_25 : decode cX5_spoilsIn 25 = .ok (.if_icmp .ge 74, 3) := by decide +kernel
theorem dX5_spoilsIn_28 : decode cX5_spoilsIn 28 = .ok (.aload_n 0, 1) := by decide +kernel
theorem dX5_spoilsIn_29 : decode cX5_spoilsIn 29 = .ok (.getfield 7, 3) := by decide +kernel
theorem dX5_spoilsIn_32 : decode cX5_spoilsIn 32 = .ok (.sipush 298, 3) := by decide +kernel
theorem dX5_spoilsIn_35 : decode cX5_spoilsIn 35 = .ok (.aload_n 0, 1) := by decide +kernel
theorem dX5_spoilsIn_36 : decode cX5_spoilsIn 36 = .ok (.iload_n 3, 1) := by decide +kernel
theorem dX5_spoilsIn_37 : decode cX5_spoilsIn 37 = .ok (.iconst 2, 1) := by decide +kernel
theorem dX5_spoilsIn_38 : decode cX5_spoilsIn 38 = .ok (.invokevirtual 53, 3) := by decide +kernel
theorem dX5_spoilsIn_41 : decode cX5_spoilsIn 41 = .ok (.iadd, 1) := by decide +kernel
theorem dX5_spoilsIn_42 : decode cX5_spoilsIn 42 = .ok (.iaload, 1) := by decide +kernel
theorem dX5_spoilsIn_43 : decode cX5_spoilsIn 43 = .ok (.aload_n 0, 1) := by decide +kernel
theorem dX5_spoilsIn_44 : decode cX5_spoilsIn 44 = .ok (.iload_n 3, 1) := by decide +kernel
theorem dX5_spoilsIn_45 : decode cX5_spoilsIn 45 = .ok (.iconst 4, 1) := by decide +kernel
theorem dX5_spoilsIn_46 : decode cX5_spoilsIn 46 = .ok (.invokevirtual 53, 3) := by decide +kernel
theorem dX5_spoilsIn_49 : decode cX5_spoilsIn 49 = .ok (.isub, 1) := by decide +kernel
theorem dX5_spoilsIn_50 : decode cX5_spoilsIn 50 = .ok (.istore 4, 2) := by decide +kernel
theorem dX5_spoilsIn_52 : decode cX5_spoilsIn 52 = .ok (.iload 4, 2) := by decide +kernel
theorem dX5_spoilsIn_54 : decode cX5_spoilsIn 54 = .ok (.iconst 1, 1) := by decide +kernel
theorem dX5_spoilsIn_55 : decode cX5_spoilsIn 55 = .ok (.if_icmp .ge 7, 3) := by decide +kernel
theorem dX5_spoilsIn_58 : decode cX5_spoilsIn 58 = .ok (.iconst 1, 1) := by decide +kernel
theorem dX5_spoilsIn_59 : decode cX5_spoilsIn 59 = .ok (.goto 5, 3) := by decide +kernel
theorem dX5_spoilsIn_62 : decode cX5_spoilsIn 62 = .ok (.iload 4, 2) := by decide +kernel
theorem dX5_spoilsIn_64 : decode cX5_spoilsIn 64 = .ok (.istore 4, 2) := by decide +kernel
theorem dX5_spoilsIn_66 : decode cX5_spoilsIn 66 = .ok (.aload_n 0, 1) := by decide +kernel
theorem dX5_spoilsIn_67 : decode cX5_spoilsIn 67 = .ok (.iload_n 3, 1) := by decide +kernel
theorem dX5_spoilsIn_68 : decode cX5_spoilsIn 68 = .ok (.iconst 0, 1) := by decide +kernel
theorem dX5_spoilsIn_69 : decode cX5_spoilsIn 69 = .ok (.invokevirtual 53, 3) := by decide +kernel
theorem dX5_spoilsIn_72 : decode cX5_spoilsIn 72 = .ok (.iload_n 1, 1) := by decide +kernel
theorem dX5_spoilsIn_73 : decode cX5_spoilsIn 73 = .ok (.if_icmp .ne 18, 3) := by decide +kernel
theorem dX5_spoilsIn_76 : decode cX5_spoilsIn 76 = .ok (.iload_n 2, 1) := by decide +kernel
theorem dX5_spoilsIn_77 : decode cX5_spoilsIn 77 = .ok (.ifCond .lt 9, 3) := by decide +kernel
theorem dX5_spoilsIn_80 : decode cX5_spoilsIn 80 = .ok (.iload 4, 2) := by decide +kernel
theorem dX5_spoilsIn_82 : decode cX5_spoilsIn 82 = .ok (.iload_n 2, 1) := by decide +kernel
theorem dX5_spoilsIn_83 : decode cX5_spoilsIn 83 = .ok (.if_icmp .ge 8, 3) := by decide +kernel
theorem dX5_spoilsIn_86 : decode cX5_spoilsIn 86 = .ok (.iload 4, 2) := by decide +kernel
theorem dX5_spoilsIn_88 : decode cX5_spoilsIn 88 = .ok (.goto 4, 3) := by decide +kernel
theorem dX5_spoilsIn_91 : decode cX5_spoilsIn 91 = .ok (.iload_n 2, 1) := by decide +kernel
theorem dX5_spoilsIn_92 : decode cX5_spoilsIn 92 = .ok (.istore_n 2, 1) := by decide +kernel
theorem dX5_spoilsIn_93 : decode cX5_spoilsIn 93 = .ok (.iinc 3 1, 3) := by decide +kernel
theorem dX5_spoilsIn_96 : decode cX5_spoilsIn 96 = .ok (.goto (-80), 3) := by decide +kernel
theorem dX5_spoilsIn_99 : decode cX5_spoilsIn 99 = .ok (.iload_n 2, 1) := by decide +kernel
theorem dX5_spoilsIn_100 : decode cX5_spoilsIn 100 = .ok (.ireturn, 1) := by decide +kernel
set_option maxRecDepth 20000 in
theorem ggX5_richest_X5_balance : GoodIn wsX5_richest wsX5_balance := goodIn_r _ [8, 9, 10, 11, 7, 12, 2, 13, 14, 15, 16, 17, 18, 19, 20, 21, 22, 23, 24, 25, 26, 27, 28, 29, 30, 31, 32, 33, 34] (by decide +kernel) (by decide +kernel)
set_option maxRecDepth 20000 in
theorem gX5_richest_X5_balance : GoodIn wsX5_richest (wsV RX5 128 RX5 yX5_balance wsX5_balance) := goodIn_app (goodIn_of _ (by decide +kernel)) ggX5_richest_X5_balance
theorem dX5_richest_0 : decode cX5_richest 0 = .ok (.iload_n 1, 1) := by decide +kernel
theorem dX5_richest_1 : decode cX5_richest 1 = .ok (.ifCond .ge 6, 3) := by decide +kernel
theorem dX5_richest_4 : decode cX5_richest 4 = .ok (.ldc 86, 2) := by decide +kernel
theorem dX5_richest_6 : decode cX5_richest 6 = .ok (.ireturn, 1) := by decide +kernel
theorem dX5_richest_7 : decode cX5_richest 7 = .ok (.iconst 0, 1) := by decide +kernel
theorem dX5_richest_8 : decode cX5_richest 8 = .ok (.istore_n 2, 1) := by decide +kernel
theorem dX5_richest_9 : decode cX5_richest 9 = .ok (.iload_n 2, 1) := by decide +kernel
theorem dX5_richest_10 : decode cX5_richest 10 = .ok (.aload_n 0, 1) := by decide +kernel
theorem dX5_richest_11 : decode cX5_richest 11 = .ok (.getfield 7, 3) := by decide +kernel
theorem dX5_richest_14 : decode cX5_richest 14 = .ok (.sipush 289, 3) := by decide +kernel
theorem dX5_richest_17 : decode cX5_richest 17 = .ok (.iaload, 1) := by decide +kernel
theorem dX5_richest_18 : decode cX5_richest 18 = .ok (.if_icmp .ge 78, 3) := by decide +kernel
theorem dX5_richest_21 : decode cX5_richest 21 = .ok (.iconst 0, 1) := by decide +kernel
theorem dX5_richest_22 : decode cX5_richest 22 = .ok (.istore_n 3, 1) := by decide +kernel
theorem dX5_richest_23 : decode cX5_richest 23 = .ok (.iconst 0, 1) := by decide +kernel
theorem dX5_richest_24 : decode cX5_richest 24 = .ok (.istore 4, 2) := by decide +kernel
theorem dX5_richest_26 : decode cX5_richest 26 = .ok (.iload 4, 2) := by decide +kernel
theorem dX5_richest_28 : decode cX5_richest 28 = .ok (.aload_n 0, 1) := by decide +kernel
theorem dX5_richest_29 : decode cX5_richest 29 = .ok (.getfield 7, 3) := by decide +kernel
theorem dX5_richest_32 : decode cX5_richest 32 = .ok (.sipush 289, 3) := by decide +kernel
theorem dX5_richest_35 : decode cX5_richest 35 = .ok (.iaload, 1) := by decide +kernel
theorem dX5_richest_36 : decode cX5_richest 36 = .ok (.if_icmp .ge 47, 3) := by decide +kernel
theorem dX5_richest_39 : decode cX5_richest 39 = .ok (.aload_n 0, 1) := by decide +kernel
theorem dX5_richest_40 : decode cX5_richest 40 = .ok (.iload 4, 2) := by decide +kernel
theorem dX5_richest_42 : decode cX5_richest 42 = .ok (.invokevirtual 128, 3) := by decide +kernel
theorem dX5_richest_45 : decode cX5_richest 45 = .ok (.aload_n 0, 1) := by decide +kernel
theorem dX5_richest_46 : decode cX5_richest 46 = .ok (.iload_n 2, 1) := by decide +kernel
theorem dX5_richest_47 : decode cX5_richest 47 = .ok (.invokevirtual 128, 3) := by decide +kernel
theorem dX5_richest_50 : decode cX5_richest 50 = .ok (.isub, 1) := by decide +kernel
theorem dX5_richest_51 : decode cX5_richest 51 = .ok (.istore 5, 2) := by decide +kernel
theorem dX5_richest_53 : decode cX5_richest 53 = .ok (.iload_n 3, 1) := by decide +kernel
theorem dX5_richest_54 : decode cX5_richest 54 = .ok (.iload 5, 2) := by decide +kernel
theorem dX5_richest_56 : decode cX5_richest 56 = .ok (.ifCond .gt 14, 3) := by decide +kernel
theorem dX5_richest_59 : decode cX5_richest 59 = .ok (.iload 5, 2) := by decide +kernel
theorem dX5_richest_61 : decode cX5_richest 61 = .ok (.ifCond .ne 13, 3) := by decide +kernel
theorem dX5_richest_64 : decode cX5_richest 64 = .ok (.iload 4, 2) := by decide +kernel
theorem dX5_richest_66 : decode cX5_richest 66 = .ok (.iload_n 2, 1) := by decide +kernel
theorem dX5_richest_67 : decode cX5_richest 67 = .ok (.if_icmp .ge 7, 3) := by decide +kernel
theorem dX5_richest_70 : decode cX5_richest 70 = .ok (.iconst 1, 1) := by decide +kernel
theorem dX5_richest_71 : decode cX5_richest 71 = .ok (.goto 4, 3) := by decide +kernel
theorem dX5_richest_74 : decode cX5_richest 74 = .ok (.iconst 0, 1) := by decide +kernel
theorem dX5_richest_75 : decode cX5_richest 75 = .ok (.iadd, 1) := by decide +kernel
theorem dX5_richest_76 : decode cX5_richest 76 = .ok (.istore_n 3, 1) := by decide +kernel
theorem dX5_richest_77 : decode cX5_richest 77 = .ok (.iinc 4 1, 3) := by decide +kernel
theorem dX5_richest_80 : decode cX5_richest 80 = .ok (.goto (-54), 3) := by decide +kernel
theorem dX5_richest_83 : decode cX5_richest 83 = .ok (.iload_n 3, 1) := by decide +kernel
theorem dX5_richest_84 : decode cX5_richest 84 = .ok (.iload_n 1, 1) := by decide +kernel
theorem dX5_richest_85 : decode cX5_richest 85 = .ok (.if_icmp .ne 5, 3) := by decide +kernel
theorem dX5_richest_88 : decode cX5_richest 88 = .ok (.iload_n 2, 1) := by decide +kernel
theorem dX5_richest_89 : decode cX5_richest 89 = .ok (.ireturn, 1) := by decide +kernel
theorem dX5_richest_90 : decode cX5_richest 90 = .ok (.iinc 2 1, 3) := by decide +kernel
theorem dX5_richest_93 : decode cX5_richest 93 = .ok (.goto (-84), 3) := by decide +kernel
theorem dX5_richest_96 : decode cX5_richest 96 = .ok (.ldc 57, 2) := by decide +kernel
theorem dX5_richest_98 : decode cX5_richest 98 = .ok (.ireturn, 1) := by decide +kernel
set_option maxRecDepth 20000 in
theorem ggX5_owedInAll_X5_of : GoodIn wsX5_owedInAll wsX5_of := goodIn_r _ [6, 1, 7, 8, 9, 10, 11, 12, 13, 14, 15, 16, 17, 18, 19, 20, 21, 22, 23, 24] (by decide +kernel) (by decide +kernel)
set_option maxRecDepth 20000 in
theorem gX5_owedInAll_X5_of : GoodIn wsX5_owedInAll (wsV RX5 53 RX5 yX5_of wsX5_of) := goodIn_app (goodIn_of _ (by decide +kernel)) ggX5_owedInAll_X5_of
theorem dX5_owedInAll_0 : decode cX5_owedInAll 0 = .ok (.iconst 0, 1) := by decide +kernel
theorem dX5_owedInAll_1 : decode cX5_owedInAll 1 = .ok (.istore_n 1, 1) := by decide +kernel
theorem dX5_owedInAll_2 : decode cX5_owedInAll 2 = .ok (.iconst 0, 1) := by decide +kernel
theorem dX5_owedInAll_3 : decode cX5_owedInAll 3 = .ok (.istore_n 2, 1) := by decide +kernel
theorem dX5_owedInAll_4 : decode cX5_owedInAll 4 = .ok (.iload_n 2, 1) := by decide +kernel
theorem dX5_owedInAll_5 : decode cX5_owedInAll 5 = .ok (.aload_n 0, 1) := by decide +kernel
theorem dX5_owedInAll_6 : decode cX5_owedInAll 6 = .ok (.getfield 7, 3) := by decide +kernel
theorem dX5_owedInAll_9 : decode cX5_owedInAll 9 = .ok (.sipush 290, 3) := by decide +kernel
theorem dX5_owedInAll_12 : decode cX5_owedInAll 12 = .ok (.iaload, 1) := by decide +kernel
theorem dX5_owedInAll_13 : decode cX5_owedInAll 13 = .ok (.if_icmp .ge 18, 3) := by decide +kernel
theorem dX5_owedInAll_16 : decode cX5_owedInAll 16 = .ok (.iload_n 1, 1) := by decide +kernel
theorem dX5_owedInAll_17 : decode cX5_owedInAll 17 = .ok (.aload_n 0, 1) := by decide +kernel
theorem dX5_owedInAll_18 : decode cX5_owedInAll 18 = .ok (.iload_n 2, 1) := by decide +kernel
theorem dX5_owedInAll_19 : decode cX5_owedInAll 19 = .ok (.iconst 3, 1) := by decide +kernel
theorem dX5_owedInAll_20 : decode cX5_owedInAll 20 = .ok (.invokevirtual 53, 3) := by decide +kernel
theorem dX5_owedInAll_23 : decode cX5_owedInAll 23 = .ok (.iadd, 1) := by decide +kernel
theorem dX5_owedInAll_24 : decode cX5_owedInAll 24 = .ok (.istore_n 1, 1) := by decide +kernel
theorem dX5_owedInAll_25 : decode cX5_owedInAll 25 = .ok (.iinc 2 1, 3) := by decide +kernel
theorem dX5_owedInAll_28 : decode cX5_owedInAll 28 = .ok (.goto (-24), 3) := by decide +kernel
theorem dX5_owedInAll_31 : decode cX5_owedInAll 31 = .ok (.iload_n 1, 1) := by decide +kernel
theorem dX5_owedInAll_32 : decode cX5_owedInAll 32 = .ok (.ireturn, 1) := by decide +kernel
set_option maxRecDepth 20000 in
theorem ggX5_mean_X5_of : GoodIn wsX5_mean wsX5_of := goodIn_r _ [7, 1, 24, 25, 26, 27, 28, 29, 30, 31, 32, 33, 34, 35, 36, 37, 38, 39, 40, 41] (by decide +kernel) (by decide +kernel)
set_option maxRecDepth 20000 in
theorem gX5_mean_X5_of : GoodIn wsX5_mean (wsV RX5 53 RX5 yX5_of wsX5_of) := goodIn_app (goodIn_of _ (by decide +kernel)) ggX5_mean_X5_of
set_option maxRecDepth 20000 in
theorem ggX5_mean_X5_owedInAll : GoodIn wsX5_mean wsX5_owedInAll := goodIn_r _ [11, 1, 3, 4, 5, 6, 7, 24, 25, 26, 27, 28, 29, 30, 31, 32, 33, 34, 35, 36, 37, 38, 39, 40, 41] (by decide +kernel) (by decide +kernel)
set_option maxRecDepth 20000 in
theorem gX5_mean_X5_owedInAll : GoodIn wsX5_mean (wsV RX5 135 RX5 yX5_owedInAll wsX5_owedInAll) := goodIn_app (goodIn_of _ (by decide +kernel)) ggX5_mean_X5_owedInAll
set_option maxRecDepth 20000 in
theorem ggX5_mean_Jxf58ca_floatToIntBits_5c35a : GoodIn wsX5_mean wsJxf58ca_floatToIntBits_5c35a := goodIn_r _ [15, 16, 17, 18, 19, 20, 21, 22, 14, 23] (by decide +kernel) (by decide +kernel)
set_option maxRecDepth 20000 in
theorem gX5_mean_Jxf58ca_floatToIntBits_5c35a : GoodIn wsX5_mean (va_wsS RX5 138 yJxf58ca_floatToIntBits_5c35a wsJxf58ca_floatToIntBits_5c35a) := goodIn_app (goodIn_of _ (by decide +kernel)) ggX5_mean_Jxf58ca_floatToIntBits_5c35a
theorem dX5_mean_0 : decode cX5_mean 0 = .ok (.iconst 0, 1) := by decide +kernel
theorem dX5_mean_1 : decode cX5_mean 1 = .ok (.istore_n 1, 1) := by decide +kernel
theorem dX5_mean_2 : decode cX5_mean 2 = .ok (.iconst 0, 1) := by decide +kernel
theorem dX5_mean_3 : decode cX5_mean 3 = .ok (.istore_n 2, 1) := by decide +kernel
theorem dX5_mean_4 : decode cX5_mean 4 = .ok (.iload_n 2, 1) := by decide +kernel
theorem dX5_mean_5 : decode cX5_mean 5 = .ok (.aload_n 0, 1) := by decide +kernel
theorem dX5_mean_6 : decode cX5_mean 6 = .ok (.getfield 7, 3) := by decide +kernel
theorem dX5_mean_9 : decode cX5_mean 9 = .ok (.sipush 290, 3) := by decide +kernel
theorem dX5_mean_12 : decode cX5_mean 12 = .ok (.iaload, 1) := by decide +kernel
theorem dX5_mean_13 : decode cX5_mean 13 = .ok (.if_icmp .ge 25, 3) := by decide +kernel
theorem dX5_mean_16 : decode cX5_mean 16 = .ok (.iload_n 1, 1) := by decide +kernel
theorem dX5_mean_17 : decode cX5_mean 17 = .ok (.aload_n 0, 1) := by decide +kernel
theorem dX5_mean_18 : decode cX5_mean 18 = .ok (.iload_n 2, 1) := by decide +kernel
theorem dX5_mean_19 : decode cX5_mean 19 = .ok (.iconst 3, 1) := by decide +kernel
theorem dX5_mean_20 : decode cX5_mean 20 = .ok (.invokevirtual 53, 3) := by decide +kernel
theorem dX5_mean_23 : decode cX5_mean 23 = .ok (.aload_n 0, 1) := by decide +kernel
theorem dX5_mean_24 : decode cX5_mean 24 = .ok (.iload_n 2, 1) := by decide +kernel
theorem dX5_mean_25 : decode cX5_mean 25 = .ok (.iconst 4, 1) := by decide +kernel
theorem dX5_mean_26 : decode cX5_mean 26 = .ok (.invokevirtual 53, 3) := by decide +kernel
theorem dX5_mean_29 : decode cX5_mean 29 = .ok (.imul, 1) := by decide +kernel
theorem dX5_mean_30 : decode cX5_mean 30 = .ok (.iadd, 1) := by decide +kernel
theorem dX5_mean_31 : decode cX5_mean 31 = .ok (.istore_n 1, 1) := by decide +kernel
theorem dX5_mean_32 : decode cX5_mean 32 = .ok (.iinc 2 1, 3) := by decide +kernel
theorem dX5_mean_35 : decode cX5_mean 35 = .ok (.goto (-31), 3) := by decide +kernel
theorem dX5_mean_38 : decode cX5_mean 38 = .ok (.iload_n 1, 1) := by decide +kernel
theorem dX5_mean_39 : decode cX5_mean 39 = .ok (.i2f, 1) := by decide +kernel
theorem dX5_mean_40 : decode cX5_mean 40 = .ok (.fstore_n 2, 1) := by decide +kernel
theorem dX5_mean_41 : decode cX5_mean 41 = .ok (.aload_n 0, 1) := by decide +kernel
theorem dX5_mean_42 : decode cX5_mean 42 = .ok (.invokevirtual 135, 3) := by decide +kernel
theorem dX5_mean_45 : decode cX5_mean 45 = .ok (.i2f, 1) := by decide +kernel
theorem dX5_mean_46 : decode cX5_mean 46 = .ok (.fstore_n 3, 1) := by decide +kernel
theorem dX5_mean_47 : decode cX5_mean 47 = .ok (.aload_n 0, 1) := by decide +kernel
theorem dX5_mean_48 : decode cX5_mean 48 = .ok (.getfield 7, 3) := by decide +kernel
theorem dX5_mean_51 : decode cX5_mean 51 = .ok (.sipush 290, 3) := by decide +kernel
theorem dX5_mean_54 : decode cX5_mean 54 = .ok (.iaload, 1) := by decide +kernel
theorem dX5_mean_55 : decode cX5_mean 55 = .ok (.ifCond .ne 8, 3) := by decide +kernel
theorem dX5_mean_58 : decode cX5_mean 58 = .ok (.ldc 57, 2) := by decide +kernel
theorem dX5_mean_60 : decode cX5_mean 60 = .ok (.goto 9, 3) := by decide +kernel
theorem dX5_mean_63 : decode cX5_mean 63 = .ok (.fload_n 2, 1) := by decide +kernel
theorem dX5_mean_64 : decode cX5_mean 64 = .ok (.fload_n 3, 1) := by decide +kernel
theorem dX5_mean_65 : decode cX5_mean 65 = .ok (.fdiv, 1) := by decide +kernel
theorem dX5_mean_66 : decode cX5_mean 66 = .ok (.invokestatic 138, 3) := by decide +kernel
theorem dX5_mean_69 : decode cX5_mean 69 = .ok (.ireturn, 1) := by decide +kernel
set_option maxRecDepth 20000 in
theorem ggX5_alone_X5_at : GoodIn wsX5_alone wsX5_at := goodIn_r _ [5] (by decide +kernel) (by decide +kernel)
set_option maxRecDepth 20000 in
theorem gX5_alone_X5_at : GoodIn wsX5_alone (va_wsS RX5 69 yX5_at wsX5_at) := goodIn_app (goodIn_of _ (by decide +kernel)) ggX5_alone_X5_at
theorem dX5_alone_0 : decode cX5_alone 0 = .ok (.iconst 0, 1) := by decide +kernel
theorem dX5_alone_1 : decode cX5_alone 1 = .ok (.istore_n 1, 1) := by decide +kernel
theorem dX5_alone_2 : decode cX5_alone 2 = .ok (.iconst 0, 1) := by decide +kernel
theorem dX5_alone_3 : decode cX5_alone 3 = .ok (.istore_n 2, 1) := by decide +kernel
theorem dX5_alone_4 : decode cX5_alone 4 = .ok (.iload_n 2, 1) := by decide +kernel
theorem dX5_alone_5 : decode cX5_alone 5 = .ok (.aload_n 0, 1) := by decide +kernel
theorem dX5_alone_6 : decode cX5_alone 6 = .ok (.getfield 7, 3) := by decide +kernel
theorem dX5_alone_9 : decode cX5_alone 9 = .ok (.sipush 289, 3) := by decide +kernel
theorem dX5_alone_12 : decode cX5_alone 12 = .ok (.iaload, 1) := by decide +kernel
theorem dX5_alone_13 : decode cX5_alone 13 = .ok (.if_icmp .ge 32, 3) := by decide +kernel
theorem dX5_alone_16 : decode cX5_alone 16 = .ok (.iload_n 1, 1) := by decide +kernel
theorem dX5_alone_17 : decode cX5_alone 17 = .ok (.aload_n 0, 1) := by decide +kernel
theorem dX5_alone_18 : decode cX5_alone 18 = .ok (.getfield 7, 3) := by decide +kernel
theorem dX5_alone_21 : decode cX5_alone 21 = .ok (.iload_n 2, 1) := by decide +kernel
theorem dX5_alone_22 : decode cX5_alone 22 = .ok (.iconst 2, 1) := by decide +kernel
theorem dX5_alone_23 : decode cX5_alone 23 = .ok (.invokestatic 69, 3) := by decide +kernel
theorem dX5_alone_26 : decode cX5_alone 26 = .ok (.iaload, 1) := by decide +kernel
theorem dX5_alone_27 : decode cX5_alone 27 = .ok (.ifCond .ne 9, 3) := by decide +kernel
theorem dX5_alone_30 : decode cX5_alone 30 = .ok (.iconst 1, 1) := by decide +kernel
theorem dX5_alone_31 : decode cX5_alone 31 = .ok (.iload_n 2, 1) := by decide +kernel
theorem dX5_alone_32 : decode cX5_alone 32 = .ok (.ishl, 1) := by decide +kernel
theorem dX5_alone_33 : decode cX5_alone 33 = .ok (.goto 4, 3) := by decide +kernel
theorem dX5_alone_36 : decode cX5_alone 36 = .ok (.iconst 0, 1) := by decide +kernel
theorem dX5_alone_37 : decode cX5_alone 37 = .ok (.ior, 1) := by decide +kernel
theorem dX5_alone_38 : decode cX5_alone 38 = .ok (.istore_n 1, 1) := by decide +kernel
theorem dX5_alone_39 : decode cX5_alone 39 = .ok (.iinc 2 1, 3) := by decide +kernel
theorem dX5_alone_42 : decode cX5_alone 42 = .ok (.goto (-38), 3) := by decide +kernel
theorem dX5_alone_45 : decode cX5_alone 45 = .ok (.iload_n 1, 1) := by decide +kernel
theorem dX5_alone_46 : decode cX5_alone 46 = .ok (.ireturn, 1) := by decide +kernel
set_option maxRecDepth 20000 in
theorem ggX5_count_X5_owedInAll : GoodIn wsX5_count wsX5_owedInAll := goodIn_r _ [9, 1, 10, 11, 12, 8, 13, 21, 22, 23, 24, 25, 26, 27, 28, 29, 30, 31, 32, 33, 34, 35, 36, 37, 38] (by decide +kernel) (by decide +kernel)
set_option maxRecDepth 20000 in
theorem gX5_count_X5_owedInAll : GoodIn wsX5_count (wsV RX5 135 RX5 yX5_owedInAll wsX5_owedInAll) := goodIn_app (goodIn_of _ (by decide +kernel)) ggX5_count_X5_owedInAll
set_option maxRecDepth 20000 in
theorem ggX5_count_X5_alone : GoodIn wsX5_count wsX5_alone := goodIn_r _ [17, 1, 18, 19, 8, 20, 21, 22, 23, 24, 25, 26, 27, 28, 29, 30, 31, 32, 33, 34, 35, 36, 37, 38] (by decide +kernel) (by decide +kernel)
set_option maxRecDepth 20000 in
theorem gX5_count_X5_alone : GoodIn wsX5_count (wsV RX5 144 RX5 yX5_alone wsX5_alone) := goodIn_app (goodIn_of _ (by decide +kernel)) ggX5_count_X5_alone
theorem dX5_count_0 : decode cX5_count 0 = .ok (.iload_n 1, 1) := by decide +kernel
theorem dX5_count_1 : decode cX5_count 1 = .ok (.tableswitch 177 0 25 #[119, 119, 119, 130, 135, 135, 135, 135, 135, 135, 135, 148, 153, 158, 177, 177, 177, 177, 177, 177, 163, 163, 163, 163, 163, 163], 119) := by decide +kernel
theorem dX5_count_120 : decode cX5_count 120 = .ok (.aload_n 0, 1) := by decide +kernel
theorem dX5_count_121 : decode cX5_count 121 = .ok (.getfield 7, 3) := by decide +kernel
theorem dX5_count_124 : decode cX5_count 124 = .ok (.sipush 288, 3) := by decide +kernel
theorem dX5_count_127 : decode cX5_count 127 = .ok (.iload_n 1, 1) := by decide +kernel
theorem dX5_count_128 : decode cX5_count 128 = .ok (.iadd, 1) := by decide +kernel
theorem dX5_count_129 : decode cX5_count 129 = .ok (.iaload, 1) := by decide +kernel
theorem dX5_count_130 : decode cX5_count 130 = .ok (.ireturn, 1) := by decide +kernel
theorem dX5_count_131 : decode cX5_count 131 = .ok (.aload_n 0, 1) := by decide +kernel
theorem dX5_count_132 : decode cX5_count 132 = .ok (.invokevirtual 135, 3) := by decide +kernel
theorem dX5_count_135 : decode cX5_count 135 = .ok (.ireturn, 1) := by decide +kernel
theorem dX5_count_136 : decode cX5_count 136 = .ok (.aload_n 0, 1) := by decide +kernel
theorem dX5_count_137 : decode cX5_count 137 = .ok (.getfield 7, 3) := by decide +kernel
theorem dX5_count_140 : decode cX5_count 140 = .ok (.sipush 291, 3) := by decide +kernel
theorem dX5_count_143 : decode cX5_count 143 = .ok (.iload_n 1, 1) := by decide +kernel
theorem dX5_count_144 : decode cX5_count 144 = .ok (.iadd, 1) := by decide +kernel
theorem dX5_count_145 : decode cX5_count 145 = .ok (.iconst 4, 1) := by decide +kernel
theorem dX5_count_146 : decode cX5_count 146 = .ok (.isub, 1) := by decide +kernel
theorem dX5_count_147 : decode cX5_count 147 = .ok (.iaload, 1) := by decide +kernel
theorem dX5_count_148 : decode cX5_count 148 = .ok (.ireturn, 1) := by decide +kernel
theorem dX5_count_149 : decode cX5_count 149 = .ok (.aload_n 0, 1) := by decide +kernel
theorem dX5_count_150 : decode cX5_count 150 = .ok (.invokevirtual 144, 3) := by decide +kernel
theorem dX5_count_153 : decode cX5_count 153 = .ok (.ireturn, 1) := by decide +kernel
theorem dX5_count_154 : decode cX5_count 154 = .ok (.aload_n 0, 1) := by decide +kernel
theorem dX5_count_155 : decode cX5_count 155 = .ok (.getfield 41, 3) := by decide +kernel
theorem dX5_count_158 : decode cX5_count 158 = .ok (.ireturn, 1) := by decide +kernel
theorem dX5_count_159 : decode cX5_count 159 = .ok (.aload_n 0, 1) := by decide +kernel
theorem dX5_count_160 : decode cX5_count 160 = .ok (.getfield 147, 3) := by decide +kernel
theorem dX5_count_163 : decode cX5_count 163 = .ok (.ireturn, 1) := by decide +kernel
theorem dX5_count_164 : decode cX5_count 164 = .ok (.aload_n 0, 1) := by decide +kernel
theorem dX5_count_165 : decode cX5_count 165 = .ok (.getfield 7, 3) := by decide +kernel
theorem dX5_count_168 : decode cX5_count 168 = .ok (.sipush 298, 3) := by decide +kernel
theorem dX5_count_171 : decode cX5_count 171 = .ok (.iload_n 1, 1) := by decide +kernel
theorem dX5_count_172 : decode cX5_count 172 = .ok (.iadd, 1) := by decide +kernel
theorem dX5_count_173 : decode cX5_count 173 = .ok (.bipush 20, 2) := by decide +kernel
theorem dX5_count_175 : decode cX5_count 175 = .ok (.isub, 1) := by decide +kernel
theorem dX5_count_176 : decode cX5_count 176 = .ok (.iaload, 1) := by decide +kernel
theorem dX5_count_177 : decode cX5_count 177 = .ok (.ireturn, 1) := by decide +kernel
theorem dX5_count_178 : decode cX5_count 178 = .ok (.ldc 86, 2) := by decide +kernel
theorem dX5_count_180 : decode cX5_count 180 = .ok (.ireturn, 1) := by decide +kernel
theorem dX5_undo_0 : decode cX5_undo 0 = .ok (.aload_n 0, 1) := by decide +kernel
theorem dX5_undo_1 : decode cX5_undo 1 = .ok (.getfield 41, 3) := by decide +kernel
theorem dX5_undo_4 : decode cX5_undo 4 = .ok (.ifCond .ne 6, 3) := by decide +kernel
theorem dX5_undo_7 : decode cX5_undo 7 = .ok (.ldc 90, 2) := by decide +kernel
theorem dX5_undo_9 : decode cX5_undo 9 = .ok (.ireturn, 1) := by decide +kernel
theorem dX5_undo_10 : decode cX5_undo 10 = .ok (.aload_n 0, 1) := by decide +kernel
theorem dX5_undo_11 : decode cX5_undo 11 = .ok (.dup, 1) := by decide +kernel
theorem dX5_undo_12 : decode cX5_undo 12 = .ok (.getfield 41, 3) := by decide +kernel
theorem dX5_undo_15 : decode cX5_undo 15 = .ok (.iconst 1, 1) := by decide +kernel
theorem dX5_undo_16 : decode cX5_undo 16 = .ok (.isub, 1) := by decide +kernel
theorem dX5_undo_17 : decode cX5_undo 17 = .ok (.putfield 41, 3) := by decide +kernel
theorem dX5_undo_20 : decode cX5_undo 20 = .ok (.iconst 0, 1) := by decide +kernel
theorem dX5_undo_21 : decode cX5_undo 21 = .ok (.istore_n 1, 1) := by decide +kernel
theorem dX5_undo_22 : decode cX5_undo 22 = .ok (.iload_n 1, 1) := by decide +kernel
theorem dX5_undo_23 : decode cX5_undo 23 = .ok (.sipush 304, 3) := by decide +kernel
theorem dX5_undo_26 : decode cX5_undo 26 = .ok (.if_icmp .ge 30, 3) := by decide +kernel
theorem dX5_undo_29 : decode cX5_undo 29 = .ok (.aload_n 0, 1) := by decide +kernel
theorem dX5_undo_30 : decode cX5_undo 30 = .ok (.getfield 7, 3) := by decide +kernel
theorem dX5_undo_33 : decode cX5_undo 33 = .ok (.iload_n 1, 1) := by decide +kernel
theorem dX5_undo_34 : decode cX5_undo 34 = .ok (.aload_n 0, 1) := by decide +kernel
theorem dX5_undo_35 : decode cX5_undo 35 = .ok (.getfield 13, 3) := by decide +kernel
theorem dX5_undo_38 : decode cX5_undo 38 = .ok (.sipush 304, 3) := by decide +kernel
theorem dX5_undo_41 : decode cX5_undo 41 = .ok (.aload_n 0, 1) := by decide +kernel
theorem dX5_undo_42 : decode cX5_undo 42 = .ok (.getfield 41, 3) := by decide +kernel
theorem dX5_undo_45 : decode cX5_undo 45 = .ok (.imul, 1) := by decide +kernel
theorem dX5_undo_46 : decode cX5_undo 46 = .ok (.iload_n 1, 1) := by decide +kernel
theorem dX5_undo_47 : decode cX5_undo 47 = .ok (.iadd, 1) := by decide +kernel
theorem dX5_undo_48 : decode cX5_undo 48 = .ok (.iaload, 1) := by decide +kernel
theorem dX5_undo_49 : decode cX5_undo 49 = .ok (.iastore, 1) := by decide +kernel
theorem dX5_undo_50 : decode cX5_undo 50 = .ok (.iinc 1 1, 3) := by decide +kernel
theorem dX5_undo_53 : decode cX5_undo 53 = .ok (.goto (-31), 3) := by decide +kernel
theorem dX5_undo_56 : decode cX5_undo 56 = .ok (.aload_n 0, 1) := by decide +kernel
theorem dX5_undo_57 : decode cX5_undo 57 = .ok (.getfield 41, 3) := by decide +kernel
theorem dX5_undo_60 : decode cX5_undo 60 = .ok (.ireturn, 1) := by decide +kernel
set_option maxRecDepth 20000 in
theorem ggX5_type_X5_in : GoodIn wsX5_type wsX5_in := goodIn_r _ [8] (by decide +kernel) (by decide +kernel)
set_option maxRecDepth 20000 in
theorem gX5_type_X5_in : GoodIn wsX5_type (va_wsS RX5 45 yX5_in wsX5_in) := goodIn_app (goodIn_of _ (by decide +kernel)) ggX5_type_X5_in
theorem dX5_type_0 : decode cX5_type 0 = .ok (.iload_n 1, 1) := by decide +kernel
theorem dX5_type_1 : decode cX5_type 1 = .ok (.bipush 32, 2) := by decide +kernel
theorem dX5_type_3 : decode cX5_type 3 = .ok (.bipush 126, 2) := by decide +kernel
theorem dX5_type_5 : decode cX5_type 5 = .ok (.invokestatic 45, 3) := by decide +kernel
theorem dX5_type_8 : decode cX5_type 8 = .ok (.ifCond .ne 6, 3) := by decide +kernel
theorem dX5_type_11 : decode cX5_type 11 = .ok (.ldc 86, 2) := by decide +kernel
theorem dX5_type_13 : decode cX5_type 13 = .ok (.ireturn, 1) := by decide +kernel
theorem dX5_type_14 : decode cX5_type 14 = .ok (.aload_n 0, 1) := by decide +kernel
theorem dX5_type_15 : decode cX5_type 15 = .ok (.getfield 147, 3) := by decide +kernel
theorem dX5_type_18 : decode cX5_type 18 = .ok (.bipush 60, 2) := by decide +kernel
theorem dX5_type_20 : decode cX5_type 20 = .ok (.if_icmp .ne 6, 3) := by decide +kernel
theorem dX5_type_23 : decode cX5_type 23 = .ok (.ldc 72, 2) := by decide +kernel
theorem dX5_type_25 : decode cX5_type 25 = .ok (.ireturn, 1) := by decide +kernel
theorem dX5_type_26 : decode cX5_type 26 = .ok (.aload_n 0, 1) := by decide +kernel
theorem dX5_type_27 : decode cX5_type 27 = .ok (.getfield 22, 3) := by decide +kernel
theorem dX5_type_30 : decode cX5_type 30 = .ok (.aload_n 0, 1) := by decide +kernel
theorem dX5_type_31 : decode cX5_type 31 = .ok (.getfield 147, 3) := by decide +kernel
theorem dX5_type_34 : decode cX5_type 34 = .ok (.iload_n 1, 1) := by decide +kernel
theorem dX5_type_35 : decode cX5_type 35 = .ok (.iastore, 1) := by decide +kernel
theorem dX5_type_36 : decode cX5_type 36 = .ok (.aload_n 0, 1) := by decide +kernel
theorem dX5_type_37 : decode cX5_type 37 = .ok (.dup, 1) := by decide +kernel
theorem dX5_type_38 : decode cX5_type 38 = .ok (.getfield 147, 3) := by decide +kernel
theorem dX5_type_41 : decode cX5_type 41 = .ok (.iconst 1, 1) := by decide +kernel
theorem dX5_type_42 : decode cX5_type 42 = .ok (.iadd, 1) := by decide +kernel
theorem dX5_type_43 : decode cX5_type 43 = .ok (.putfield 147, 3) := by decide +kernel
theorem dX5_type_46 : decode cX5_type 46 = .ok (.aload_n 0, 1) := by decide +kernel
theorem dX5_type_47 : decode cX5_type 47 = .ok (.getfield 147, 3) := by decide +kernel
theorem dX5_type_50 : decode cX5_type 50 = .ok (.ireturn, 1) := by decide +kernel
theorem dX5_clearText_0 : decode cX5_clearText 0 = .ok (.aload_n 0, 1) := by decide +kernel
theorem dX5_clearText_1 : decode cX5_clearText 1 = .ok (.getfield 147, 3) := by decide +kernel
theorem dX5_clearText_4 : decode cX5_clearText 4 = .ok (.istore_n 1, 1) := by decide +kernel
theorem dX5_clearText_5 : decode cX5_clearText 5 = .ok (.aload_n 0, 1) := by decide +kernel
theorem dX5_clearText_6 : decode cX5_clearText 6 = .ok (.iconst 0, 1) := by decide +kernel
theorem dX5_clearText_7 : decode cX5_clearText 7 = .ok (.putfield 147, 3) := by decide +kernel
theorem dX5_clearText_10 : decode cX5_clearText 10 = .ok (.iload_n 1, 1) := by decide +kernel
theorem dX5_clearText_11 : decode cX5_clearText 11 = .ok (.ireturn, 1) := by decide +kernel
set_option maxRecDepth 20000 in
theorem ggX5_isAt_X5_in : GoodIn wsX5_isAt wsX5_in := goodIn_r _ [7] (by decide +kernel) (by decide +kernel)
set_option maxRecDepth 20000 in
theorem gX5_isAt_X5_in : GoodIn wsX5_isAt (va_wsS RX5 45 yX5_in wsX5_in) := goodIn_app (goodIn_of _ (by decide +kernel)) ggX5_isAt_X5_in
theorem dX5_isAt_0 : decode cX5_isAt 0 = .ok (.aload_n 0, 1) := by decide +kernel
theorem dX5_isAt_1 : decode cX5_isAt 1 = .ok (.getfield 150, 3) := by decide +kernel
theorem dX5_isAt_4 : decode cX5_isAt 4 = .ok (.aload_n 0, 1) := by decide +kernel
theorem dX5_isAt_5 : decode cX5_isAt 5 = .ok (.getfield 147, 3) := by decide +kernel
theorem dX5_isAt_8 : decode cX5_isAt 8 = .ok (.if_icmp .ge 24, 3) := by decide +kernel
theorem dX5_isAt_11 : decode cX5_isAt 11 = .ok (.aload_n 0, 1) := by decide +kernel
theorem dX5_isAt_12 : decode cX5_isAt 12 = .ok (.getfield 22, 3) := by decide +kernel
theorem dX5_isAt_15 : decode cX5_isAt 15 = .ok (.aload_n 0, 1) := by decide +kernel
theorem dX5_isAt_16 : decode cX5_isAt 16 = .ok (.getfield 150, 3) := by decide +kernel
theorem dX5_isAt_19 : decode cX5_isAt 19 = .ok (.iaload, 1) := by decide +kernel
theorem dX5_isAt_20 : decode cX5_isAt 20 = .ok (.iload_n 1, 1) := by decide +kernel
theorem dX5_isAt_21 : decode cX5_isAt 21 = .ok (.iload_n 2, 1) := by decide +kernel
theorem dX5_isAt_22 : decode cX5_isAt 22 = .ok (.invokestatic 45, 3) := by decide +kernel
theorem dX5_isAt_25 : decode cX5_isAt 25 = .ok (.ifCond .eq 7, 3) := by decide +kernel
theorem dX5_isAt_28 : decode cX5_isAt 28 = .ok (.iconst 1, 1) := by decide +kernel
theorem dX5_isAt_29 : decode cX5_isAt 29 = .ok (.goto 4, 3) := by decide +kernel
theorem dX5_isAt_32 : decode cX5_isAt 32 = .ok (.iconst 0, 1) := by decide +kernel
theorem dX5_isAt_33 : decode cX5_isAt 33 = .ok (.ireturn, 1) := by decide +kernel
set_option maxRecDepth 20000 in
theorem ggX5_sign_X5_isAt : GoodIn wsX5_sign wsX5_isAt := goodIn_r _ [6, 1, 7, 8, 9, 10, 5, 11, 12, 13, 14, 15, 16, 17, 18, 19, 20, 21, 22, 23, 24, 25, 26, 27, 28, 29] (by decide +kernel) (by decide +kernel)
set_option maxRecDepth 20000 in
theorem gX5_sign_X5_isAt : GoodIn wsX5_sign (wsV RX5 153 RX5 yX5_isAt wsX5_isAt) := goodIn_app (goodIn_of _ (by decide +kernel)) ggX5_sign_X5_isAt
theorem dX5_sign_0 : decode cX5_sign 0 = .ok (.aload_n 0, 1) := by decide +kernel
theorem dX5_sign_1 : decode cX5_sign 1 = .ok (.iload_n 1, 1) := by decide +kernel
theorem dX5_sign_2 : decode cX5_sign 2 = .ok (.iload_n 1, 1) := by decide +kernel
theorem dX5_sign_3 : decode cX5_sign 3 = .ok (.invokevirtual 153, 3) := by decide +kernel
theorem dX5_sign_6 : decode cX5_sign 6 = .ok (.istore_n 2, 1) := by decide +kernel
theorem dX5_sign_7 : decode cX5_sign 7 = .ok (.aload_n 0, 1) := by decide +kernel
theorem dX5_sign_8 : decode cX5_sign 8 = .ok (.dup, 1) := by decide +kernel
theorem dX5_sign_9 : decode cX5_sign 9 = .ok (.getfield 150, 3) := by decide +kernel
theorem dX5_sign_12 : decode cX5_sign 12 = .ok (.iload_n 2, 1) := by decide +kernel
theorem dX5_sign_13 : decode cX5_sign 13 = .ok (.ifCond .eq 7, 3) := by decide +kernel
theorem dX5_sign_16 : decode cX5_sign 16 = .ok (.iconst 1, 1) := by decide +kernel
theorem dX5_sign_17 : decode cX5_sign 17 = .ok (.goto 4, 3) := by decide +kernel
theorem dX5_sign_20 : decode cX5_sign 20 = .ok (.iconst 0, 1) := by decide +kernel
theorem dX5_sign_21 : decode cX5_sign 21 = .ok (.iadd, 1) := by decide +kernel
theorem dX5_sign_22 : decode cX5_sign 22 = .ok (.putfield 150, 3) := by decide +kernel
theorem dX5_sign_25 : decode cX5_sign 25 = .ok (.iload_n 2, 1) := by decide +kernel
theorem dX5_sign_26 : decode cX5_sign 26 = .ok (.ireturn, 1) := by decide +kernel
set_option maxRecDepth 20000 in
theorem ggX5_numbered_X5_isAt : GoodIn wsX5_numbered wsX5_isAt := goodIn_r _ [8, 1, 9, 3, 10, 11, 7, 12, 13, 14, 15, 16, 17, 18, 19, 20, 21, 22, 23, 24, 25, 26, 27, 28, 29, 30] (by decide +kernel) (by decide +kernel)
set_option maxRecDepth 20000 in
theorem gX5_numbered_X5_isAt : GoodIn wsX5_numbered (wsV RX5 153 RX5 yX5_isAt wsX5_isAt) := goodIn_app (goodIn_of _ (by decide +kernel)) ggX5_numbered_X5_isAt
theorem dX5_numbered_0 : decode cX5_numbered 0 = .ok (.aload_n 0, 1) := by decide +kernel
theorem dX5_numbered_1 : decode cX5_numbered 1 = .ok (.getfield 150, 3) := by decide +kernel
theorem dX5_numbered_4 : decode cX5_numbered 4 = .ok (.istore_n 2, 1) := by decide +kernel
theorem dX5_numbered_5 : decode cX5_numbered 5 = .ok (.aload_n 0, 1) := by decide +kernel
theorem dX5_numbered_6 : decode cX5_numbered 6 = .ok (.getfield 34, 3) := by decide +kernel
theorem dX5_numbered_9 : decode cX5_numbered 9 = .ok (.iload_n 1, 1) := by decide +kernel
theorem dX5_numbered_10 : decode cX5_numbered 10 = .ok (.iconst 0, 1) := by decide +kernel
theorem dX5_numbered_11 : decode cX5_numbered 11 = .ok (.iastore, 1) := by decide +kernel
theorem dX5_numbered_12 : decode cX5_numbered 12 = .ok (.aload_n 0, 1) := by decide +kernel
theorem dX5_numbered_13 : decode cX5_numbered 13 = .ok (.bipush 48, 2) := by decide +kernel
theorem dX5_numbered_15 : decode cX5_numbered 15 = .ok (.bipush 57, 2) := by decide +kernel
theorem dX5_numbered_17 : decode cX5_numbered 17 = .ok (.invokevirtual 153, 3) := by decide +kernel
theorem dX5_numbered_20 : decode cX5_numbered 20 = .ok (.ifCond .eq 54, 3) := by decide +kernel
theorem dX5_numbered_23 : decode cX5_numbered 23 = .ok (.aload_n 0, 1) := by decide +kernel
theorem dX5_numbered_24 : decode cX5_numbered 24 = .ok (.getfield 150, 3) := by decide +kernel
theorem dX5_numbered_27 : decode cX5_numbered 27 = .ok (.iload_n 2, 1) := by decide +kernel
theorem dX5_numbered_28 : decode cX5_numbered 28 = .ok (.isub, 1) := by decide +kernel
theorem dX5_numbered_29 : decode cX5_numbered 29 = .ok (.iconst 2, 1) := by decide +kernel
theorem dX5_numbered_30 : decode cX5_numbered 30 = .ok (.if_icmp .ge 44, 3) := by decide +kernel
theorem dX5_numbered_33 : decode cX5_numbered 33 = .ok (.aload_n 0, 1) := by decide +kernel
theorem dX5_numbered_34 : decode cX5_numbered 34 = .ok (.getfield 34, 3) := by decide +kernel
theorem dX5_numbered_37 : decode cX5_numbered 37 = .ok (.iload_n 1, 1) := by decide +kernel
theorem dX5_numbered_38 : decode cX5_numbered 38 = .ok (.bipush 10, 2) := by decide +kernel
theorem dX5_numbered_40 : decode cX5_numbered 40 = .ok (.aload_n 0, 1) := by decide +kernel
theorem dX5_numbered_41 : decode cX5_numbered 41 = .ok (.getfield 34, 3) := by decide +kernel
theorem dX5_numbered_44 : decode cX5_numbered 44 = .ok (.iload_n 1, 1) := by decide +kernel
theorem dX5_numbered_45 : decode cX5_numbered 45 = .ok (.iaload, 1) := by decide +kernel
theorem dX5_numbered_46 : decode cX5_numbered 46 = .ok (.imul, 1) := by decide +kernel
theorem dX5_numbered_47 : decode cX5_numbered 47 = .ok (.aload_n 0, 1) := by decide +kernel
theorem dX5_numbered_48 : decode cX5_numbered 48 = .ok (.getfield 22, 3) := by decide +kernel
theorem dX5_numbered_51 : decode cX5_numbered 51 = .ok (.aload_n 0, 1) := by decide +kernel
theorem dX5_numbered_52 : decode cX5_numbered 52 = .ok (.getfield 150, 3) := by decide +kernel
theorem dX5_numbered_55 : decode cX5_numbered 55 = .ok (.iaload, 1) := by decide +kernel
theorem dX5_numbered_56 : decode cX5_numbered 56 = .ok (.iadd, 1) := by decide +kernel
theorem dX5_numbered_57 : decode cX5_numbered 57 = .ok (.bipush 48, 2) := by decide +kernel
theorem dX5_numbered_59 : decode cX5_numbered 59 = .ok (.isub, 1) := by decide +kernel
theorem dX5_numbered_60 : decode cX5_numbered 60 = .ok (.iastore, 1) := by decide +kernel
theorem dX5_numbered_61 : decode cX5_numbered 61 = .ok (.aload_n 0, 1) := by decide +kernel
theorem dX5_numbered_62 : decode cX5_numbered 62 = .ok (.dup, 1) := by decide +kernel
theorem dX5_numbered_63 : decode cX5_numbered 63 = .ok (.getfield 150, 3) := by decide +kernel
theorem dX5_numbered_66 : decode cX5_numbered 66 = .ok (.iconst 1, 1) := by decide +kernel
theorem dX5_numbered_67 : decode cX5_numbered 67 = .ok (.iadd, 1) := by decide +kernel
theorem dX5_numbered_68 : decode cX5_numbered 68 = .ok (.putfield 150, 3) := by decide +kernel
theorem dX5_numbered_71 : decode cX5_numbered 71 = .ok (.goto (-59), 3) := by decide +kernel
theorem dX5_numbered_74 : decode cX5_numbered 74 = .ok (.aload_n 0, 1) := by decide +kernel
theorem dX5_numbered_75 : decode cX5_numbered 75 = .ok (.getfield 150, 3) := by decide +kernel
theorem dX5_numbered_78 : decode cX5_numbered 78 = .ok (.iload_n 2, 1) := by decide +kernel
theorem dX5_numbered_79 : decode cX5_numbered 79 = .ok (.if_icmp .le 7, 3) := by decide +kernel
theorem dX5_numbered_82 : decode cX5_numbered 82 = .ok (.iconst 1, 1) := by decide +kernel
theorem dX5_numbered_83 : decode cX5_numbered 83 = .ok (.goto 4, 3) := by decide +kernel
theorem dX5_numbered_86 : decode cX5_numbered 86 = .ok (.iconst 0, 1) := by decide +kernel
theorem dX5_numbered_87 : decode cX5_numbered 87 = .ok (.ireturn, 1) := by decide +kernel
theorem dX5_numbersOf_0 : decode cX5_numbersOf 0 = .ok (.iload_n 0, 1) := by decide +kernel
theorem dX5_numbersOf_1 : decode cX5_numbersOf 1 = .ok (.lookupswitch 67 #[(99, 63), (100, 59), (103, 61), (104, 65), (111, 59), (119, 63)], 59) := by decide +kernel
theorem dX5_numbersOf_60 : decode cX5_numbersOf 60 = .ok (.iconst 4, 1) := by decide +kernel
theorem dX5_numbersOf_61 : decode cX5_numbersOf 61 = .ok (.ireturn, 1) := by decide +kernel
theorem dX5_numbersOf_62 : decode cX5_numbersOf 62 = .ok (.iconst 2, 1) := by decide +kernel
theorem dX5_numbersOf_63 : decode cX5_numbersOf 63 = .ok (.ireturn, 1) := by decide +kernel
theorem dX5_numbersOf_64 : decode cX5_numbersOf 64 = .ok (.iconst 1, 1) := by decide +kernel
theorem dX5_numbersOf_65 : decode cX5_numbersOf 65 = .ok (.ireturn, 1) := by decide +kernel
theorem dX5_numbersOf_66 : decode cX5_numbersOf 66 = .ok (.iconst 0, 1) := by decide +kernel
theorem dX5_numbersOf_67 : decode cX5_numbersOf 67 = .ok (.ireturn, 1) := by decide +kernel
theorem dX5_numbersOf_68 : decode cX5_numbersOf 68 = .ok (.ldc 57, 2) := by decide +kernel
theorem dX5_numbersOf_70 : decode cX5_numbersOf 70 = .ok (.ireturn, 1) := by decide +kernel
set_option maxRecDepth 20000 in
theorem ggX5_parses_X5_isAt : GoodIn wsX5_parses wsX5_isAt := goodIn_r _ [8, 2, 9, 1, 10, 11, 7, 12, 26, 27, 28, 29, 30, 31, 32, 33, 34, 35, 36, 37, 38, 39, 40, 41, 42, 43] (by decide +kernel) (by decide +kernel)
set_option maxRecDepth 20000 in
theorem gX5_parses_X5_isAt : GoodIn wsX5_parses (wsV RX5 153 RX5 yX5_isAt wsX5_isAt) := goodIn_app (goodIn_of _ (by decide +kernel)) ggX5_parses_X5_isAt
set_option maxRecDepth 20000 in
theorem ggX5_parses_X5_numbersOf : GoodIn wsX5_parses wsX5_numbersOf := goodIn_r _ [15, 16] (by decide +kernel) (by decide +kernel)
set_option maxRecDepth 20000 in
theorem gX5_parses_X5_numbersOf : GoodIn wsX5_parses (va_wsS RX5 159 yX5_numbersOf wsX5_numbersOf) := goodIn_app (goodIn_of _ (by decide +kernel)) ggX5_parses_X5_numbersOf
set_option maxRecDepth 20000 in
theorem ggX5_parses_X5_numbered : GoodIn wsX5_parses wsX5_numbered := goodIn_r _ [20, 2, 21, 1, 4, 5, 6, 7, 8, 9, 10, 11, 12, 26, 27, 28, 29, 30, 31, 32, 33, 34, 35, 36, 37, 38, 39, 40, 41, 42, 43] (by decide +kernel) (by decide +kernel)
set_option maxRecDepth 20000 in
theorem gX5_parses_X5_numbered : GoodIn wsX5_parses (wsV RX5 162 RX5 yX5_numbered wsX5_numbered) := goodIn_app (goodIn_of _ (by decide +kernel)) ggX5_parses_X5_numbered
set_option maxRecDepth 20000 in
theorem ggX5_parses_X5_sign : GoodIn wsX5_parses wsX5_sign := goodIn_r _ [25, 2, 4, 5, 6, 7, 8, 9, 1, 10, 11, 12, 26, 27, 28, 29, 30, 31, 32, 33, 34, 35, 36, 37, 38, 39, 40, 41, 42, 43] (by decide +kernel) (by decide +kernel)
set_option maxRecDepth 20000 in
theorem gX5_parses_X5_sign : GoodIn wsX5_parses (wsV RX5 165 RX5 yX5_sign wsX5_sign) := goodIn_app (goodIn_of _ (by decide +kernel)) ggX5_parses_X5_sign
theorem dX5_parses_0 : decode cX5_parses 0 = .ok (.aload_n 0, 1) := by decide +kernel
theorem dX5_parses_1 : decode cX5_parses 1 = .ok (.aload_n 0, 1) := by decide +kernel
theorem dX5_parses_2 : decode cX5_parses 2 = .ok (.bipush 33, 2) := by decide +kernel
theorem dX5_parses_4 : decode cX5_parses 4 = .ok (.bipush 126, 2) := by decide +kernel
theorem dX5_parses_6 : decode cX5_parses 6 = .ok (.invokevirtual 153, 3) := by decide +kernel
theorem dX5_parses_9 : decode cX5_parses 9 = .ok (.ifCond .eq 15, 3) := by decide +kernel
theorem dX5_parses_12 : decode cX5_parses 12 = .ok (.aload_n 0, 1) := by decide +kernel
theorem dX5_parses_13 : decode cX5_parses 13 = .ok (.getfield 22, 3) := by decide +kernel
theorem dX5_parses_16 : decode cX5_parses 16 = .ok (.aload_n 0, 1) := by decide +kernel
theorem dX5_parses_17 : decode cX5_parses 17 = .ok (.getfield 150, 3) := by decide +kernel
theorem dX5_parses_20 : decode cX5_parses 20 = .ok (.iaload, 1) := by decide +kernel
theorem dX5_parses_21 : decode cX5_parses 21 = .ok (.goto 4, 3) := by decide +kernel
theorem dX5_parses_24 : decode cX5_parses 24 = .ok (.iconst 0, 1) := by decide +kernel
theorem dX5_parses_25 : decode cX5_parses 25 = .ok (.putfield 156, 3) := by decide +kernel
theorem dX5_parses_28 : decode cX5_parses 28 = .ok (.aload_n 0, 1) := by decide +kernel
theorem dX5_parses_29 : decode cX5_parses 29 = .ok (.getfield 156, 3) := by decide +kernel
theorem dX5_parses_32 : decode cX5_parses 32 = .ok (.invokestatic 159, 3) := by decide +kernel
theorem dX5_parses_35 : decode cX5_parses 35 = .ok (.istore_n 1, 1) := by decide +kernel
theorem dX5_parses_36 : decode cX5_parses 36 = .ok (.iload_n 1, 1) := by decide +kernel
theorem dX5_parses_37 : decode cX5_parses 37 = .ok (.ifCond .ge 5, 3) := by decide +kernel
theorem dX5_parses_40 : decode cX5_parses 40 = .ok (.iconst 0, 1) := by decide +kernel
theorem dX5_parses_41 : decode cX5_parses 41 = .ok (.ireturn, 1) := by decide +kernel
theorem dX5_parses_42 : decode cX5_parses 42 = .ok (.aload_n 0, 1) := by decide +kernel
theorem dX5_parses_43 : decode cX5_parses 43 = .ok (.dup, 1) := by decide +kernel
theorem dX5_parses_44 : decode cX5_parses 44 = .ok (.getfield 150, 3) := by decide +kernel
theorem dX5_parses_47 : decode cX5_parses 47 = .ok (.iconst 1, 1) := by decide +kernel
theorem dX5_parses_48 : decode cX5_parses 48 = .ok (.iadd, 1) := by decide +kernel
theorem dX5_parses_49 : decode cX5_parses 49 = .ok (.putfield 150, 3) := by decide +kernel
theorem dX5_parses_52 : decode cX5_parses 52 = .ok (.iload_n 1, 1) := by decide +kernel
theorem dX5_parses_53 : decode cX5_parses 53 = .ok (.ifCond .eq 11, 3) := by decide +kernel
theorem dX5_parses_56 : decode cX5_parses 56 = .ok (.aload_n 0, 1) := by decide +kernel
theorem dX5_parses_57 : decode cX5_parses 57 = .ok (.iconst 0, 1) := by decide +kernel
theorem dX5_parses_58 : decode cX5_parses 58 = .ok (.invokevirtual 162, 3) := by decide +kernel
theorem dX5_parses_61 : decode cX5_parses 61 = .ok (.ifCond .eq 7, 3) := by decide +kernel
theorem dX5_parses_64 : decode cX5_parses 64 = .ok (.iconst 1, 1) := by decide +kernel
theorem dX5_parses_65 : decode cX5_parses 65 = .ok (.goto 4, 3) := by decide +kernel
theorem dX5_parses_68 : decode cX5_parses 68 = .ok (.iconst 0, 1) := by decide +kernel
theorem dX5_parses_69 : decode cX5_parses 69 = .ok (.istore_n 2, 1) := by decide +kernel
theorem dX5_parses_70 : decode cX5_parses 70 = .ok (.iconst 1, 1) := by decide +kernel
theorem dX5_parses_71 : decode cX5_parses 71 = .ok (.istore_n 3, 1) := by decide +kernel
theorem dX5_parses_72 : decode cX5_parses 72 = .ok (.iload_n 3, 1) := by decide +kernel
theorem dX5_parses_73 : decode cX5_parses 73 = .ok (.iload_n 1, 1) := by decide +kernel
theorem dX5_parses_74 : decode cX5_parses 74 = .ok (.if_icmp .ge 36, 3) := by decide +kernel
theorem dX5_parses_77 : decode cX5_parses 77 = .ok (.iload_n 2, 1) := by decide +kernel
theorem dX5_parses_78 : decode cX5_parses 78 = .ok (.ifCond .eq 32, 3) := by decide +kernel
theorem dX5_parses_81 : decode cX5_parses 81 = .ok (.aload_n 0, 1) := by decide +kernel
theorem dX5_parses_82 : decode cX5_parses 82 = .ok (.bipush 44, 2) := by decide +kernel
theorem dX5_parses_84 : decode cX5_parses 84 = .ok (.invokevirtual 165, 3) := by decide +kernel
theorem dX5_parses_87 : decode cX5_parses 87 = .ok (.ifCond .eq 15, 3) := by decide +kernel
theorem dX5_parses_90 : decode cX5_parses 90 = .ok (.aload_n 0, 1) := by decide +kernel
theorem dX5_parses_91 : decode cX5_parses 91 = .ok (.iload_n 3, 1) := by decide +kernel
theorem dX5_parses_92 : decode cX5_parses 92 = .ok (.invokevirtual 162, 3) := by decide +kernel
theorem dX5_parses_95 : decode cX5_parses 95 = .ok (.ifCond .eq 7, 3) := by decide +kernel
theorem dX5_parses_98 : decode cX5_parses 98 = .ok (.iconst 1, 1) := by decide +kernel
theorem dX5_parses_99 : decode cX5_parses 99 = .ok (.goto 4, 3) := by decide +kernel
theorem dX5_parses_102 : decode cX5_parses 102 = .ok (.iconst 0, 1) := by decide +kernel
theorem dX5_parses_103 : decode cX5_parses 103 = .ok (.istore_n 2, 1) := by decide +kernel
theorem dX5_parses_104 : decode cX5_parses 104 = .ok (.iinc 3 1, 3) := by decide +kernel
theorem dX5_parses_107 : decode cX5_parses 107 = .ok (.goto (-35), 3) := by decide +kernel
theorem dX5_parses_110 : decode cX5_parses 110 = .ok (.iload_n 2, 1) := by decide +kernel
theorem dX5_parses_111 : decode cX5_parses 111 = .ok (.ifCond .eq 16, 3) := by decide +kernel
theorem dX5_parses_114 : decode cX5_parses 114 = .ok (.aload_n 0, 1) := by decide +kernel
theorem dX5_parses_115 : decode cX5_parses 115 = .ok (.bipush 59, 2) := by decide +kernel
theorem dX5_parses_117 : decode cX5_parses 117 = .ok (.invokevirtual 165, 3) := by decide +kernel
theorem dX5_parses_120 : decode cX5_parses 120 = .ok (.ifCond .eq 7, 3) := by decide +kernel
theorem dX5_parses_123 : decode cX5_parses 123 = .ok (.iconst 1, 1) := by decide +kernel
theorem dX5_parses_124 : decode cX5_parses 124 = .ok (.goto 4, 3) := by decide +kernel
theorem dX5_parses_127 : decode cX5_parses 127 = .ok (.iconst 0, 1) := by decide +kernel
theorem dX5_parses_128 : decode cX5_parses 128 = .ok (.ireturn, 1) := by decide +kernel
set_option maxRecDepth 20000 in
theorem ggX5_does_X5_lend : GoodIn wsX5_does wsX5_lend := goodIn_r _ [8, 9, 10, 3, 11, 12, 13, 14, 7, 15, 16, 17, 18, 19, 20, 21, 22, 23, 24, 25, 26, 27, 28, 29, 30, 31, 32, 33, 34, 35, 36, 37, 38, 39, 40, 41, 42, 43, 44, 45, 46, 47, 48, 49, 50, 51, 52, 53, 54, 55, 56, 57, 58, 59, 127, 128, 129, 130, 131, 132, 133, 134, 135, 136, 137, 138, 139, 140, 141, 142, 143, 144] (by decide +kernel) (by decide +kernel)
set_option maxRecDepth 20000 in
theorem gX5_does_X5_lend : GoodIn wsX5_does (wsV RX5 168 RX5 yX5_lend wsX5_lend) := goodIn_app (goodIn_of _ (by decide +kernel)) ggX5_does_X5_lend
set_option maxRecDepth 20000 in
theorem ggX5_does_X5_fulfil : GoodIn wsX5_does wsX5_fulfil := goodIn_r _ [63, 9, 10, 3, 12, 13, 14, 7, 15, 16, 17, 18, 19, 20, 21, 22, 23, 24, 25, 56, 57, 58, 59, 34, 35, 36, 37, 41, 42, 43, 44, 45, 46, 47, 64, 65, 66, 67, 68, 69, 70, 71, 72, 48, 49, 50, 51, 73, 74, 75, 76, 38, 39, 40, 52, 53, 54, 55, 127, 128, 129, 130, 131, 132, 133, 134, 135, 136, 137, 138, 139, 140, 141, 142, 143, 144] (by decide +kernel) (by decide +kernel)
set_option maxRecDepth 20000 in
theorem gX5_does_X5_fulfil : GoodIn wsX5_does (wsV RX5 172 RX5 yX5_fulfil wsX5_fulfil) := goodIn_app (goodIn_of _ (by decide +kernel)) ggX5_does_X5_fulfil
set_option maxRecDepth 20000 in
theorem ggX5_does_X5_guarantee : GoodIn wsX5_does wsX5_guarantee := goodIn_r _ [80, 9, 3, 16, 17, 18, 7, 19, 20, 21, 22, 41, 42, 43, 44, 45, 46, 47, 38, 39, 40, 127, 128, 129, 130, 131, 132, 133, 134, 135, 136, 137, 138, 139, 140, 141, 142, 143, 144] (by decide +kernel) (by decide +kernel)
set_option maxRecDepth 20000 in
theorem gX5_does_X5_guarantee : GoodIn wsX5_does (wsV RX5 175 RX5 yX5_guarantee wsX5_guarantee) := goodIn_app (goodIn_of _ (by decide +kernel)) ggX5_does_X5_guarantee
set_option maxRecDepth 20000 in
theorem ggX5_does_X5_clear : GoodIn wsX5_does wsX5_clear := goodIn_r _ [84, 9, 23, 24, 7, 25, 20, 21, 22, 41, 42, 43, 44, 45, 46, 47, 3, 85, 86, 87, 88, 89, 90, 91, 92, 93, 94, 95, 96, 97, 98, 99, 34, 35, 36, 37, 100, 101, 102, 103, 104, 105, 106, 107, 108, 109, 110, 56, 57, 58, 59, 64, 65, 66, 67, 68, 69, 70, 71, 72, 48, 49, 50, 51, 73, 74, 75, 76, 38, 39, 40, 127, 128, 129, 130, 131, 132, 133, 134, 135, 136, 137, 138, 139, 140, 141, 142, 143, 144] (by decide +kernel) (by decide +kernel)
set_option maxRecDepth 20000 in
theorem gX5_does_X5_clear : GoodIn wsX5_does (wsV RX5 178 RX5 yX5_clear wsX5_clear) := goodIn_app (goodIn_of _ (by decide +kernel)) ggX5_does_X5_clear
set_option maxRecDepth 20000 in
theorem ggX5_does_X5_weeks : GoodIn wsX5_does wsX5_weeks := goodIn_r _ [114, 9, 3, 11, 20, 21, 7, 22, 41, 42, 43, 44, 45, 46, 47, 115, 116, 117, 118, 34, 35, 36, 37, 48, 49, 50, 51, 119, 120, 121, 122, 38, 39, 40, 52, 53, 54, 55, 73, 74, 75, 76, 127, 128, 129, 130, 131, 132, 133, 134, 135, 136, 137, 138, 139, 140, 141, 142, 143, 144] (by decide +kernel) (by decide +kernel)
set_option maxRecDepth 20000 in
theorem gX5_does_X5_weeks : GoodIn wsX5_does (wsV RX5 181 RX5 yX5_weeks wsX5_weeks) := goodIn_app (goodIn_of _ (by decide +kernel)) ggX5_does_X5_weeks
set_option maxRecDepth 20000 in
theorem ggX5_does_X5_holiday : GoodIn wsX5_does wsX5_holiday := goodIn_r _ [126, 3, 41, 42, 43, 7, 44, 45, 46, 47, 127, 128, 129, 130, 131, 132, 133, 134, 135, 136, 137, 138, 139, 140, 141, 142, 143, 144] (by decide +kernel) (by decide +kernel)
set_option maxRecDepth 20000 in
theorem gX5_does_X5_holiday : GoodIn wsX5_does (wsV RX5 184 RX5 yX5_holiday wsX5_holiday) := goodIn_app (goodIn_of _ (by decide +kernel)) ggX5_does_X5_holiday
theorem dX5_does_0 : decode cX5_does 0 = .ok (.aload_n 0, 1) := by decide +kernel
theorem dX5_does_1 : decode cX5_does 1 = .ok (.getfield 156, 3) := by decide +kernel
theorem dX5_does_4 : decode cX5_does 4 = .ok (.lookupswitch 149 #[(99, 127), (100, 81), (103, 110), (111, 52), (119, 138)], 52) := by decide +kernel
theorem dX5_does_56 : decode cX5_does 56 = .ok (.aload_n 0, 1) := by decide +kernel
theorem dX5_does_57 : decode cX5_does 57 = .ok (.aload_n 0, 1) := by decide +kernel
theorem dX5_does_58 : decode cX5_does 58 = .ok (.getfield 34, 3) := by decide +kernel
theorem dX5_does_61 : decode cX5_does 61 = .ok (.iconst 0, 1) := by decide +kernel
theorem dX5_does_62 : decode cX5_does 62 = .ok (.iaload, 1) := by decide +kernel
theorem dX5_does_63 : decode cX5_does 63 = .ok (.aload_n 0, 1) := by decide +kernel
theorem dX5_does_64 : decode cX5_does 64 = .ok (.getfield 34, 3) := by decide +kernel
theorem dX5_does_67 : decode cX5_does 67 = .ok (.iconst 1, 1) := by decide +kernel
theorem dX5_does_68 : decode cX5_does 68 = .ok (.iaload, 1) := by decide +kernel
theorem dX5_does_69 : decode cX5_does 69 = .ok (.aload_n 0, 1) := by decide +kernel
theorem dX5_does_70 : decode cX5_does 70 = .ok (.getfield 34, 3) := by decide +kernel
theorem dX5_does_73 : decode cX5_does 73 = .ok (.iconst 2, 1) := by decide +kernel
theorem dX5_does_74 : decode cX5_does 74 = .ok (.iaload, 1) := by decide +kernel
theorem dX5_does_75 : decode cX5_does 75 = .ok (.aload_n 0, 1) := by decide +kernel
theorem dX5_does_76 : decode cX5_does 76 = .ok (.getfield 34, 3) := by decide +kernel
theorem dX5_does_79 : decode cX5_does 79 = .ok (.iconst 3, 1) := by decide +kernel
theorem dX5_does_80 : decode cX5_does 80 = .ok (.iaload, 1) := by decide +kernel
theorem dX5_does_81 : decode cX5_does 81 = .ok (.invokevirtual 168, 3) := by decide +kernel
theorem dX5_does_84 : decode cX5_does 84 = .ok (.ireturn, 1) := by decide +kernel
theorem dX5_does_85 : decode cX5_does 85 = .ok (.aload_n 0, 1) := by decide +kernel
theorem dX5_does_86 : decode cX5_does 86 = .ok (.aload_n 0, 1) := by decide +kernel
theorem dX5_does_87 : decode cX5_does 87 = .ok (.getfield 34, 3) := by decide +kernel
theorem dX5_does_90 : decode cX5_does 90 = .ok (.iconst 0, 1) := by decide +kernel
theorem dX5_does_91 : decode cX5_does 91 = .ok (.iaload, 1) := by decide +kernel
theorem dX5_does_92 : decode cX5_does 92 = .ok (.aload_n 0, 1) := by decide +kernel
theorem dX5_does_93 : decode cX5_does 93 = .ok (.getfield 34, 3) := by decide +kernel
theorem dX5_does_96 : decode cX5_does 96 = .ok (.iconst 1, 1) := by decide +kernel
theorem dX5_does_97 : decode cX5_does 97 = .ok (.iaload, 1) := by decide +kernel
theorem dX5_does_98 : decode cX5_does 98 = .ok (.aload_n 0, 1) := by decide +kernel
theorem dX5_does_99 : decode cX5_does 99 = .ok (.getfield 34, 3) := by decide +kernel
theorem dX5_does_102 : decode cX5_does 102 = .ok (.iconst 2, 1) := by decide +kernel
theorem dX5_does_103 : decode cX5_does 103 = .ok (.iaload, 1) := by decide +kernel
theorem dX5_does_104 : decode cX5_does 104 = .ok (.aload_n 0, 1) := by decide +kernel
theorem dX5_does_105 : decode cX5_does 105 = .ok (.getfield 34, 3) := by decide +kernel
theorem dX5_does_108 : decode cX5_does 108 = .ok (.iconst 3, 1) := by decide +kernel
theorem dX5_does_109 : decode cX5_does 109 = .ok (.iaload, 1) := by decide +kernel
theorem dX5_does_110 : decode cX5_does 110 = .ok (.invokevirtual 172, 3) := by decide +kernel
theorem dX5_does_113 : decode cX5_does 113 = .ok (.ireturn, 1) := by decide +kernel
theorem dX5_does_114 : decode cX5_does 114 = .ok (.aload_n 0, 1) := by decide +kernel
theorem dX5_does_115 : decode cX5_does 115 = .ok (.aload_n 0, 1) := by decide +kernel
theorem dX5_does_116 : decode cX5_does 116 = .ok (.getfield 34, 3) := by decide +kernel
theorem dX5_does_119 : decode cX5_does 119 = .ok (.iconst 0, 1) := by decide +kernel
theorem dX5_does_120 : decode cX5_does 120 = .ok (.iaload, 1) := by decide +kernel
theorem dX5_does_121 : decode cX5_does 121 = .ok (.aload_n 0, 1) := by decide +kernel
theorem dX5_does_122 : decode cX5_does 122 = .ok (.getfield 34, 3) := by decide +kernel
theorem dX5_does_125 : decode cX5_does 125 = .ok (.iconst 1, 1) := by decide +kernel
theorem dX5_does_126 : decode cX5_does 126 = .ok (.iaload, 1) := by decide +kernel
theorem dX5_does_127 : decode cX5_does 127 = .ok (.invokevirtual 175, 3) := by decide +kernel
theorem dX5_does_130 : decode cX5_does 130 = .ok (.ireturn, 1) := by decide +kernel
theorem dX5_does_131 : decode cX5_does 131 = .ok (.aload_n 0, 1) := by decide +kernel
theorem dX5_does_132 : decode cX5_does 132 = .ok (.aload_n 0, 1) := by decide +kernel
theorem dX5_does_133 : decode cX5_does 133 = .ok (.getfield 34, 3) := by decide +kernel
theorem dX5_does_136 : decode cX5_does 136 = .ok (.iconst 0, 1) := by decide +kernel
theorem dX5_does_137 : decode cX5_does 137 = .ok (.iaload, 1) := by decide +kernel
theorem dX5_does_138 : decode cX5_does 138 = .ok (.invokevirtual 178, 3) := by decide +kernel
theorem dX5_does_141 : decode cX5_does 141 = .ok (.ireturn, 1) := by decide +kernel
theorem dX5_does_142 : decode cX5_does 142 = .ok (.aload_n 0, 1) := by decide +kernel
theorem dX5_does_143 : decode cX5_does 143 = .ok (.aload_n 0, 1) := by decide +kernel
theorem dX5_does_144 : decode cX5_does 144 = .ok (.getfield 34, 3) := by decide +kernel
theorem dX5_does_147 : decode cX5_does 147 = .ok (.iconst 0, 1) := by decide +kernel
theorem dX5_does_148 : decode cX5_does 148 = .ok (.iaload, 1) := by decide +kernel
theorem dX5_does_149 : decode cX5_does 149 = .ok (.invokevirtual 181, 3) := by decide +kernel
theorem dX5_does_152 : decode cX5_does 152 = .ok (.ireturn, 1) := by decide +kernel
theorem dX5_does_153 : decode cX5_does 153 = .ok (.aload_n 0, 1) := by decide +kernel
theorem dX5_does_154 : decode cX5_does 154 = .ok (.aload_n 0, 1) := by decide +kernel
theorem dX5_does_155 : decode cX5_does 155 = .ok (.getfield 7, 3) := by decide +kernel
theorem dX5_does_158 : decode cX5_does 158 = .ok (.sipush 297, 3) := by decide +kernel
theorem dX5_does_161 : decode cX5_does 161 = .ok (.iaload, 1) := by decide +kernel
theorem dX5_does_162 : decode cX5_does 162 = .ok (.ifCond .ne 7, 3) := by decide +kernel
theorem dX5_does_165 : decode cX5_does 165 = .ok (.iconst 1, 1) := by decide +kernel
theorem dX5_does_166 : decode cX5_does 166 = .ok (.goto 4, 3) := by decide +kernel
theorem dX5_does_169 : decode cX5_does 169 = .ok (.iconst 0, 1) := by decide +kernel
theorem dX5_does_170 : decode cX5_does 170 = .ok (.invokevirtual 184, 3) := by decide +kernel
theorem dX5_does_173 : decode cX5_does 173 = .ok (.ireturn, 1) := by decide +kernel
set_option maxRecDepth 20000 in
theorem ggX5_plays_X5_parses : GoodIn wsX5_plays wsX5_parses := goodIn_r _ [12, 13, 2, 14, 15, 16, 17, 11, 18, 5, 19, 20, 21, 22, 23, 24, 25, 26, 27, 28, 29, 30, 31, 32, 33, 34, 157, 158, 159, 160, 161, 162, 163, 164, 165, 166, 167, 168, 169, 170, 171, 172, 173, 174] (by decide +kernel) (by decide +kernel)
set_option maxRecDepth 20000 in
theorem gX5_plays_X5_parses : GoodIn wsX5_plays (wsV RX5 194 RX5 yX5_parses wsX5_parses) := goodIn_app (goodIn_of _ (by decide +kernel)) ggX5_plays_X5_parses
set_option maxRecDepth 20000 in
theorem ggX5_plays_X5_does : GoodIn wsX5_plays wsX5_does := goodIn_r _ [38, 14, 30, 39, 40, 41, 42, 11, 43, 44, 45, 46, 47, 48, 49, 50, 51, 52, 53, 54, 19, 20, 21, 55, 56, 57, 58, 59, 60, 61, 62, 63, 64, 65, 66, 67, 68, 69, 70, 71, 72, 73, 74, 75, 76, 1, 77, 78, 79, 80, 81, 82, 83, 84, 85, 86, 87, 88, 89, 90, 91, 92, 93, 94, 95, 96, 97, 98, 99, 100, 101, 102, 25, 103, 104, 105, 106, 107, 108, 109, 110, 111, 112, 113, 114, 115, 116, 117, 118, 119, 120, 121, 122, 123, 124, 125, 126, 127, 128, 129, 130, 131, 132, 133, 134, 135, 136, 137, 138, 139, 140, 141, 142, 143, 144, 145, 146, 147, 148, 149, 150, 151, 152, 153, 154, 155, 156, 157, 158, 159, 160, 161, 162, 163, 164, 165, 166, 167, 168, 169, 170, 171, 172, 173, 174] (by decide +kernel) (by decide +kernel)
set_option maxRecDepth 20000 in
theorem gX5_plays_X5_does : GoodIn wsX5_plays (wsV RX5 198 RX5 yX5_does wsX5_does) := goodIn_app (goodIn_of _ (by decide +kernel)) ggX5_plays_X5_does
theorem dX5_plays_0 : decode cX5_plays 0 = .ok (.aload_n 0, 1) := by decide +kernel
theorem dX5_plays_1 : decode cX5_plays 1 = .ok (.iconst 1, 1) := by decide +kernel
theorem dX5_plays_2 : decode cX5_plays 2 = .ok (.putfield 37, 3) := by decide +kernel
theorem dX5_plays_5 : decode cX5_plays 5 = .ok (.aload_n 0, 1) := by decide +kernel
theorem dX5_plays_6 : decode cX5_plays 6 = .ok (.iconst 0, 1) := by decide +kernel
theorem dX5_plays_7 : decode cX5_plays 7 = .ok (.putfield 150, 3) := by decide +kernel
theorem dX5_plays_10 : decode cX5_plays 10 = .ok (.aload_n 0, 1) := by decide +kernel
theorem dX5_plays_11 : decode cX5_plays 11 = .ok (.iconst 0, 1) := by decide +kernel
theorem dX5_plays_12 : decode cX5_plays 12 = .ok (.putfield 188, 3) := by decide +kernel
theorem dX5_plays_15 : decode cX5_plays 15 = .ok (.aload_n 0, 1) := by decide +kernel
theorem dX5_plays_16 : decode cX5_plays 16 = .ok (.iconst 0, 1) := by decide +kernel
theorem dX5_plays_17 : decode cX5_plays 17 = .ok (.putfield 191, 3) := by decide +kernel
theorem dX5_plays_20 : decode cX5_plays 20 = .ok (.iconst 1, 1) := by decide +kernel
theorem dX5_plays_21 : decode cX5_plays 21 = .ok (.istore_n 1, 1) := by decide +kernel
theorem dX5_plays_22 : decode cX5_plays 22 = .ok (.aload_n 0, 1) := by decide +kernel
theorem dX5_plays_23 : decode cX5_plays 23 = .ok (.getfield 150, 3) := by decide +kernel
theorem dX5_plays_26 : decode cX5_plays 26 = .ok (.aload_n 0, 1) := by decide +kernel
theorem dX5_plays_27 : decode cX5_plays 27 = .ok (.getfield 147, 3) := by decide +kernel
theorem dX5_plays_30 : decode cX5_plays 30 = .ok (.if_icmp .ge 94, 3) := by decide +kernel
theorem dX5_plays_33 : decode cX5_plays 33 = .ok (.iload_n 1, 1) := by decide +kernel
theorem dX5_plays_34 : decode cX5_plays 34 = .ok (.ifCond .eq 90, 3) := by decide +kernel
theorem dX5_plays_37 : decode cX5_plays 37 = .ok (.aload_n 0, 1) := by decide +kernel
theorem dX5_plays_38 : decode cX5_plays 38 = .ok (.aload_n 0, 1) := by decide +kernel
theorem dX5_plays_39 : decode cX5_plays 39 = .ok (.getfield 150, 3) := by decide +kernel
theorem dX5_plays_42 : decode cX5_plays 42 = .ok (.putfield 188, 3) := by decide +kernel
theorem dX5_plays_45 : decode cX5_plays 45 = .ok (.aload_n 0, 1) := by decide +kernel
theorem dX5_plays_46 : decode cX5_plays 46 = .ok (.invokevirtual 194, 3) := by decide +kernel
theorem dX5_plays_49 : decode cX5_plays 49 = .ok (.istore_n 2, 1) := by decide +kernel
theorem dX5_plays_50 : decode cX5_plays 50 = .ok (.iload_n 2, 1) := by decide +kernel
theorem dX5_plays_51 : decode cX5_plays 51 = .ok (.ifCond .eq 10, 3) := by decide +kernel
theorem dX5_plays_54 : decode cX5_plays 54 = .ok (.aload_n 0, 1) := by decide +kernel
theorem dX5_plays_55 : decode cX5_plays 55 = .ok (.invokevirtual 198, 3) := by decide +kernel
theorem dX5_plays_58 : decode cX5_plays 58 = .ok (.goto 4, 3) := by decide +kernel
theorem dX5_plays_61 : decode cX5_plays 61 = .ok (.iconst 0, 1) := by decide +kernel
theorem dX5_plays_62 : decode cX5_plays 62 = .ok (.istore_n 3, 1) := by decide +kernel
theorem dX5_plays_63 : decode cX5_plays 63 = .ok (.iload_n 2, 1) := by decide +kernel
theorem dX5_plays_64 : decode cX5_plays 64 = .ok (.ifCond .eq 11, 3) := by decide +kernel
theorem dX5_plays_67 : decode cX5_plays 67 = .ok (.iload_n 3, 1) := by decide +kernel
theorem dX5_plays_68 : decode cX5_plays 68 = .ok (.ifCond .lt 7, 3) := by decide +kernel
theorem dX5_plays_71 : decode cX5_plays 71 = .ok (.iconst 1, 1) := by decide +kernel
theorem dX5_plays_72 : decode cX5_plays 72 = .ok (.goto 4, 3) := by decide +kernel
theorem dX5_plays_75 : decode cX5_plays 75 = .ok (.iconst 0, 1) := by decide +kernel
theorem dX5_plays_76 : decode cX5_plays 76 = .ok (.istore_n 1, 1) := by decide +kernel
theorem dX5_plays_77 : decode cX5_plays 77 = .ok (.aload_n 0, 1) := by decide +kernel
theorem dX5_plays_78 : decode cX5_plays 78 = .ok (.iload_n 2, 1) := by decide +kernel
theorem dX5_plays_79 : decode cX5_plays 79 = .ok (.ifCond .eq 7, 3) := by decide +kernel
theorem dX5_plays_82 : decode cX5_plays 82 = .ok (.iconst 2, 1) := by decide +kernel
theorem dX5_plays_83 : decode cX5_plays 83 = .ok (.goto 4, 3) := by decide +kernel
theorem dX5_plays_86 : decode cX5_plays 86 = .ok (.iconst 1, 1) := by decide +kernel
theorem dX5_plays_87 : decode cX5_plays 87 = .ok (.putfield 201, 3) := by decide +kernel
theorem dX5_plays_90 : decode cX5_plays 90 = .ok (.aload_n 0, 1) := by decide +kernel
theorem dX5_plays_91 : decode cX5_plays 91 = .ok (.iload_n 2, 1) := by decide +kernel
theorem dX5_plays_92 : decode cX5_plays 92 = .ok (.ifCond .eq 7, 3) := by decide +kernel
theorem dX5_plays_95 : decode cX5_plays 95 = .ok (.iload_n 3, 1) := by decide +kernel
theorem dX5_plays_96 : decode cX5_plays 96 = .ok (.goto 12, 3) := by decide +kernel
theorem dX5_plays_99 : decode cX5_plays 99 = .ok (.aload_n 0, 1) := by decide +kernel
theorem dX5_plays_100 : decode cX5_plays 100 = .ok (.getfield 150, 3) := by decide +kernel
theorem dX5_plays_103 : decode cX5_plays 103 = .ok (.aload_n 0, 1) := by decide +kernel
theorem dX5_plays_104 : decode cX5_plays 104 = .ok (.getfield 188, 3) := by decide +kernel
theorem dX5_plays_107 : decode cX5_plays 107 = .ok (.isub, 1) := by decide +kernel
theorem dX5_plays_108 : decode cX5_plays 108 = .ok (.putfield 204, 3) := by decide +kernel
theorem dX5_plays_111 : decode cX5_plays 111 = .ok (.aload_n 0, 1) := by decide +kernel
theorem dX5_plays_112 : decode cX5_plays 112 = .ok (.dup, 1) := by decide +kernel
theorem dX5_plays_113 : decode cX5_plays 113 = .ok (.getfield 191, 3) := by decide +kernel
theorem dX5_plays_116 : decode cX5_plays 116 = .ok (.iconst 1, 1) := by decide +kernel
theorem dX5_plays_117 : decode cX5_plays 117 = .ok (.iadd, 1) := by decide +kernel
theorem dX5_plays_118 : decode cX5_plays 118 = .ok (.putfield 191, 3) := by decide +kernel
theorem dX5_plays_121 : decode cX5_plays 121 = .ok (.goto (-99), 3) := by decide +kernel
theorem dX5_plays_124 : decode cX5_plays 124 = .ok (.aload_n 0, 1) := by decide +kernel
theorem dX5_plays_125 : decode cX5_plays 125 = .ok (.iconst 0, 1) := by decide +kernel
theorem dX5_plays_126 : decode cX5_plays 126 = .ok (.putfield 37, 3) := by decide +kernel
theorem dX5_plays_129 : decode cX5_plays 129 = .ok (.iload_n 1, 1) := by decide +kernel
theorem dX5_plays_130 : decode cX5_plays 130 = .ok (.ireturn, 1) := by decide +kernel
set_option maxRecDepth 20000 in
theorem ggX5_fault_X5_in : GoodIn wsX5_fault wsX5_in := goodIn_r _ [11] (by decide +kernel) (by decide +kernel)
set_option maxRecDepth 20000 in
theorem gX5_fault_X5_in : GoodIn wsX5_fault (va_wsS RX5 45 yX5_in wsX5_in) := goodIn_app (goodIn_of _ (by decide +kernel)) ggX5_fault_X5_in
set_option maxRecDepth 20000 in
theorem ggX5_fault_X5_copies : GoodIn wsX5_fault wsX5_copies := goodIn_r _ [14] (by decide +kernel) (by decide +kernel)
set_option maxRecDepth 20000 in
theorem gX5_fault_X5_copies : GoodIn wsX5_fault (va_wsS RX5 131 yX5_copies wsX5_copies) := goodIn_app (goodIn_of _ (by decide +kernel)) ggX5_fault_X5_copies
set_option maxRecDepth 20000 in
theorem ggX5_fault_X5_plays : GoodIn wsX5_fault wsX5_plays := goodIn_r _ [18, 19, 20, 5, 21, 22, 6, 7, 23, 24, 25, 10, 26, 27, 28, 29, 30, 31, 32, 8, 9, 11, 33, 34, 35, 4, 36, 37, 38, 39, 40, 41, 42, 43, 44, 45, 46, 47, 48, 2, 49, 50, 51, 52, 1, 53, 54, 55, 56, 57, 58, 59, 60, 61, 62, 63, 64, 65, 66, 67, 68, 69, 70, 71, 72, 73, 74, 75, 76, 77, 78, 79, 80, 81, 82, 83, 84, 85, 86, 87, 88, 89, 90, 91, 92, 93, 94, 95, 96, 97, 98, 99, 100, 101, 102, 103, 104, 105, 106, 107, 108, 109, 110, 111, 112, 113, 114, 115, 116, 117, 118, 119, 120, 121, 122, 123, 124, 125, 126, 127, 128, 129, 130, 131, 132, 133, 134, 135, 136, 137, 138, 139, 140, 141, 142, 143, 144, 145, 146, 147, 148, 149, 150, 151, 152, 153, 154, 155, 156, 157, 158, 159, 160, 161, 162, 163, 164, 165, 166, 167, 168, 169, 170, 171, 172, 173, 174, 175, 176, 177, 178, 179, 180, 181, 182] (by decide +kernel) (by decide +kernel)
set_option maxRecDepth 20000 in
theorem gX5_fault_X5_plays : GoodIn wsX5_fault (wsV RX5 207 RX5 yX5_plays wsX5_plays) := goodIn_app (goodIn_of _ (by decide +kernel)) ggX5_fault_X5_plays
theorem dX5_fault_0 : decode cX5_fault 0 = .ok (.iload_n 1, 1) := by decide +kernel
theorem dX5_fault_1 : decode cX5_fault 1 = .ok (.iconst 0, 1) := by decide +kernel
theorem dX5_fault_2 : decode cX5_fault 2 = .ok (.iconst 2, 1) := by decide +kernel
theorem dX5_fault_3 : decode cX5_fault 3 = .ok (.invokestatic 45, 3) := by decide +kernel
theorem dX5_fault_6 : decode cX5_fault 6 = .ok (.ifCond .ne 6, 3) := by decide +kernel
theorem dX5_fault_9 : decode cX5_fault 9 = .ok (.ldc 86, 2) := by decide +kernel
theorem dX5_fault_11 : decode cX5_fault 11 = .ok (.ireturn, 1) := by decide +kernel
theorem dX5_fault_12 : decode cX5_fault 12 = .ok (.aload_n 0, 1) := by decide +kernel
theorem dX5_fault_13 : decode cX5_fault 13 = .ok (.getfield 7, 3) := by decide +kernel
theorem dX5_fault_16 : decode cX5_fault 16 = .ok (.aload_n 0, 1) := by decide +kernel
theorem dX5_fault_17 : decode cX5_fault 17 = .ok (.getfield 16, 3) := by decide +kernel
theorem dX5_fault_20 : decode cX5_fault 20 = .ok (.invokestatic 131, 3) := by decide +kernel
theorem dX5_fault_23 : decode cX5_fault 23 = .ok (.aload_n 0, 1) := by decide +kernel
theorem dX5_fault_24 : decode cX5_fault 24 = .ok (.invokevirtual 207, 3) := by decide +kernel
theorem dX5_fault_27 : decode cX5_fault 27 = .ok (.istore_n 2, 1) := by decide +kernel
theorem dX5_fault_28 : decode cX5_fault 28 = .ok (.aload_n 0, 1) := by decide +kernel
theorem dX5_fault_29 : decode cX5_fault 29 = .ok (.getfield 16, 3) := by decide +kernel
theorem dX5_fault_32 : decode cX5_fault 32 = .ok (.aload_n 0, 1) := by decide +kernel
theorem dX5_fault_33 : decode cX5_fault 33 = .ok (.getfield 7, 3) := by decide +kernel
theorem dX5_fault_36 : decode cX5_fault 36 = .ok (.invokestatic 131, 3) := by decide +kernel
theorem dX5_fault_39 : decode cX5_fault 39 = .ok (.iload_n 2, 1) := by decide +kernel
theorem dX5_fault_40 : decode cX5_fault 40 = .ok (.ifCond .eq 8, 3) := by decide +kernel
theorem dX5_fault_43 : decode cX5_fault 43 = .ok (.ldc 57, 2) := by decide +kernel
theorem dX5_fault_45 : decode cX5_fault 45 = .ok (.goto 30, 3) := by decide +kernel
theorem dX5_fault_48 : decode cX5_fault 48 = .ok (.iload_n 1, 1) := by decide +kernel
theorem dX5_fault_49 : decode cX5_fault 49 = .ok (.ifCond .ne 10, 3) := by decide +kernel
theorem dX5_fault_52 : decode cX5_fault 52 = .ok (.aload_n 0, 1) := by decide +kernel
theorem dX5_fault_53 : decode cX5_fault 53 = .ok (.getfield 188, 3) := by decide +kernel
theorem dX5_fault_56 : decode cX5_fault 56 = .ok (.goto 19, 3) := by decide +kernel
theorem dX5_fault_59 : decode cX5_fault 59 = .ok (.iload_n 1, 1) := by decide +kernel
theorem dX5_fault_60 : decode cX5_fault 60 = .ok (.iconst 1, 1) := by decide +kernel
theorem dX5_fault_61 : decode cX5_fault 61 = .ok (.if_icmp .ne 10, 3) := by decide +kernel
theorem dX5_fault_64 : decode cX5_fault 64 = .ok (.aload_n 0, 1) := by decide +kernel
theorem dX5_fault_65 : decode cX5_fault 65 = .ok (.getfield 201, 3) := by decide +kernel
theorem dX5_fault_68 : decode cX5_fault 68 = .ok (.goto 7, 3) := by decide +kernel
theorem dX5_fault_71 : decode cX5_fault 71 = .ok (.aload_n 0, 1) := by decide +kernel
theorem dX5_fault_72 : decode cX5_fault 72 = .ok (.getfield 204, 3) := by decide +kernel
theorem dX5_fault_75 : decode cX5_fault 75 = .ok (.ireturn, 1) := by decide +kernel
set_option maxRecDepth 20000 in
theorem ggX5_play_X5_copies : GoodIn wsX5_play wsX5_copies := goodIn_r _ [9] (by decide +kernel) (by decide +kernel)
set_option maxRecDepth 20000 in
theorem gX5_play_X5_copies : GoodIn wsX5_play (va_wsS RX5 131 yX5_copies wsX5_copies) := goodIn_app (goodIn_of _ (by decide +kernel)) ggX5_play_X5_copies
set_option maxRecDepth 20000 in
theorem ggX5_play_X5_plays : GoodIn wsX5_play wsX5_plays := goodIn_r _ [13, 14, 15, 16, 4, 17, 18, 19, 20, 21, 22, 8, 23, 24, 25, 26, 27, 28, 29, 30, 31, 32, 33, 34, 35, 5, 36, 37, 38, 39, 40, 41, 42, 43, 44, 45, 46, 47, 48, 1, 49, 50, 51, 52, 53, 3, 54, 55, 56, 57, 58, 59, 60, 61, 62, 63, 64, 65, 66, 67, 68, 69, 70, 71, 72, 73, 74, 75, 76, 77, 78, 79, 80, 81, 82, 83, 84, 85, 86, 87, 88, 89, 90, 91, 92, 93, 94, 95, 96, 97, 98, 99, 100, 101, 102, 103, 104, 105, 106, 107, 108, 109, 110, 111, 112, 113, 114, 115, 116, 117, 118, 119, 120, 121, 122, 123, 124, 125, 126, 127, 128, 129, 130, 131, 132, 133, 134, 135, 136, 137, 138, 139, 140, 141, 142, 143, 144, 145, 146, 147, 148, 149, 150, 151, 152, 153, 154, 155, 156, 157, 158, 159, 160, 161, 162, 163, 164, 165, 166, 167, 168, 169, 170, 171, 172, 173, 174, 175, 176, 177, 178, 179, 180, 181, 182] (by decide +kernel) (by decide +kernel)
set_option maxRecDepth 20000 in
theorem gX5_play_X5_plays : GoodIn wsX5_play (wsV RX5 207 RX5 yX5_plays wsX5_plays) := goodIn_app (goodIn_of _ (by decide +kernel)) ggX5_play_X5_plays
set_option maxRecDepth 20000 in
theorem ggX5_play_X5_changes : GoodIn wsX5_play wsX5_changes := goodIn_r _ [84, 14, 85, 86, 1, 165, 166, 167, 168, 169, 170, 171, 172, 173, 174, 175, 176, 177, 178, 179, 180, 181, 182] (by decide +kernel) (by decide +kernel)
set_option maxRecDepth 20000 in
theorem gX5_play_X5_changes : GoodIn wsX5_play (wsV RX5 73 RX5 yX5_changes wsX5_changes) := goodIn_app (goodIn_of _ (by decide +kernel)) ggX5_play_X5_changes
theorem dX5_play_0 : decode cX5_play 0 = .ok (.aload_n 0, 1) := by decide +kernel
theorem dX5_play_1 : decode cX5_play 1 = .ok (.getfield 7, 3) := by decide +kernel
theorem dX5_play_4 : decode cX5_play 4 = .ok (.aload_n 0, 1) := by decide +kernel
theorem dX5_play_5 : decode cX5_play 5 = .ok (.getfield 16, 3) := by decide +kernel
theorem dX5_play_8 : decode cX5_play 8 = .ok (.invokestatic 131, 3) := by decide +kernel
theorem dX5_play_11 : decode cX5_play 11 = .ok (.aload_n 0, 1) := by decide +kernel
theorem dX5_play_12 : decode cX5_play 12 = .ok (.invokevirtual 207, 3) := by decide +kernel
theorem dX5_play_15 : decode cX5_play 15 = .ok (.istore_n 1, 1) := by decide +kernel
theorem dX5_play_16 : decode cX5_play 16 = .ok (.aload_n 0, 1) := by decide +kernel
theorem dX5_play_17 : decode cX5_play 17 = .ok (.getfield 16, 3) := by decide +kernel
theorem dX5_play_20 : decode cX5_play 20 = .ok (.aload_n 0, 1) := by decide +kernel
theorem dX5_play_21 : decode cX5_play 21 = .ok (.getfield 7, 3) := by decide +kernel
theorem dX5_play_24 : decode cX5_play 24 = .ok (.invokestatic 131, 3) := by decide +kernel
theorem dX5_play_27 : decode cX5_play 27 = .ok (.iload_n 1, 1) := by decide +kernel
theorem dX5_play_28 : decode cX5_play 28 = .ok (.ifCond .ne 6, 3) := by decide +kernel
theorem dX5_play_31 : decode cX5_play 31 = .ok (.ldc 90, 2) := by decide +kernel
theorem dX5_play_33 : decode cX5_play 33 = .ok (.ireturn, 1) := by decide +kernel
theorem dX5_play_34 : decode cX5_play 34 = .ok (.aload_n 0, 1) := by decide +kernel
theorem dX5_play_35 : decode cX5_play 35 = .ok (.invokevirtual 73, 3) := by decide +kernel
theorem dX5_play_38 : decode cX5_play 38 = .ok (.aload_n 0, 1) := by decide +kernel
theorem dX5_play_39 : decode cX5_play 39 = .ok (.invokevirtual 207, 3) := by decide +kernel
theorem dX5_play_42 : decode cX5_play 42 = .ok (.ifCond .eq 10, 3) := by decide +kernel
theorem dX5_play_45 : decode cX5_play 45 = .ok (.aload_n 0, 1) := by decide +kernel
theorem dX5_play_46 : decode cX5_play 46 = .ok (.getfield 191, 3) := by decide +kernel
theorem dX5_play_49 : decode cX5_play 49 = .ok (.goto 5, 3) := by decide +kernel
theorem dX5_play_52 : decode cX5_play 52 = .ok (.ldc 57, 2) := by decide +kernel
theorem dX5_play_54 : decode cX5_play 54 = .ok (.ireturn, 1) := by decide +kernel
theorem dJxf58ca_isNaN_12338_0 : decode cJxf58ca_isNaN_12338 0 = .ok (.fload_n 0, 1) := by decide +kernel
theorem dJxf58ca_isNaN_12338_1 : decode cJxf58ca_isNaN_12338 1 = .ok (.fload_n 0, 1) := by decide +kernel
theorem dJxf58ca_isNaN_12338_2 : decode cJxf58ca_isNaN_12338 2 = .ok (.fcmp .l, 1) := by decide +kernel
theorem dJxf58ca_isNaN_12338_3 : decode cJxf58ca_isNaN_12338 3 = .ok (.ifCond .eq 7, 3) := by decide +kernel
theorem dJxf58ca_isNaN_12338_6 : decode cJxf58ca_isNaN_12338 6 = .ok (.iconst 1, 1) := by decide +kernel
theorem dJxf58ca_isNaN_12338_7 : decode cJxf58ca_isNaN_12338 7 = .ok (.goto 4, 3) := by decide +kernel
theorem dJxf58ca_isNaN_12338_10 : decode cJxf58ca_isNaN_12338 10 = .ok (.iconst 0, 1) := by decide +kernel
theorem dJxf58ca_isNaN_12338_11 : decode cJxf58ca_isNaN_12338 11 = .ok (.ireturn, 1) := by decide +kernel
set_option maxRecDepth 20000 in
theorem ggJxf58ca_floatToIntBits_5c35a_Jxf58ca_isNaN_12338 : GoodIn wsJxf58ca_floatToIntBits_5c35a wsJxf58ca_isNaN_12338 := goodIn_r _ [9] (by decide +kernel) (by decide +kernel)
set_option maxRecDepth 20000 in
theorem gJxf58ca_floatToIntBits_5c35a_Jxf58ca_isNaN_12338 : GoodIn wsJxf58ca_floatToIntBits_5c35a (va_wsS RJxf58ca 59 yJxf58ca_isNaN_12338 wsJxf58ca_isNaN_12338) := goodIn_app (goodIn_of _ (by decide +kernel)) ggJxf58ca_floatToIntBits_5c35a_Jxf58ca_isNaN_12338
theorem dJxf58ca_floatToIntBits_5c35a_0 : decode cJxf58ca_floatToIntBits_5c35a 0 = .ok (.fload_n 0, 1) := by decide +kernel
theorem dJxf58ca_floatToIntBits_5c35a_1 : decode cJxf58ca_floatToIntBits_5c35a 1 = .ok (.invokestatic 59, 3) := by decide +kernel
theorem dJxf58ca_floatToIntBits_5c35a_4 : decode cJxf58ca_floatToIntBits_5c35a 4 = .ok (.ifCond .ne 8, 3) := by decide +kernel
theorem dJxf58ca_floatToIntBits_5c35a_7 : decode cJxf58ca_floatToIntBits_5c35a 7 = .ok (.fload_n 0, 1) := by decide +kernel
theorem dJxf58ca_floatToIntBits_5c35a_8 : decode cJxf58ca_floatToIntBits_5c35a 8 = .ok (.invokestatic 74, 3) := by decide +kernel
theorem dJxf58ca_floatToIntBits_5c35a_11 : decode cJxf58ca_floatToIntBits_5c35a 11 = .ok (.ireturn, 1) := by decide +kernel
theorem dJxf58ca_floatToIntBits_5c35a_12 : decode cJxf58ca_floatToIntBits_5c35a 12 = .ok (.ldc 77, 2) := by decide +kernel
theorem dJxf58ca_floatToIntBits_5c35a_14 : decode cJxf58ca_floatToIntBits_5c35a 14 = .ok (.ireturn, 1) := by decide +kernel
theorem dJ9_max_7cf53_0 : decode cJ9_max_7cf53 0 = .ok (.iload_n 0, 1) := by decide +kernel
theorem dJ9_max_7cf53_1 : decode cJ9_max_7cf53 1 = .ok (.iload_n 1, 1) := by decide +kernel
theorem dJ9_max_7cf53_2 : decode cJ9_max_7cf53 2 = .ok (.if_icmp .lt 7, 3) := by decide +kernel
theorem dJ9_max_7cf53_5 : decode cJ9_max_7cf53 5 = .ok (.iload_n 0, 1) := by decide +kernel
theorem dJ9_max_7cf53_6 : decode cJ9_max_7cf53 6 = .ok (.goto 4, 3) := by decide +kernel
theorem dJ9_max_7cf53_9 : decode cJ9_max_7cf53 9 = .ok (.iload_n 1, 1) := by decide +kernel
theorem dJ9_max_7cf53_10 : decode cJ9_max_7cf53 10 = .ok (.ireturn, 1) := by decide +kernel
theorem dJ9_min_7cf53_0 : decode cJ9_min_7cf53 0 = .ok (.iload_n 0, 1) := by decide +kernel
theorem dJ9_min_7cf53_1 : decode cJ9_min_7cf53 1 = .ok (.iload_n 1, 1) := by decide +kernel
theorem dJ9_min_7cf53_2 : decode cJ9_min_7cf53 2 = .ok (.if_icmp .gt 7, 3) := by decide +kernel
theorem dJ9_min_7cf53_5 : decode cJ9_min_7cf53 5 = .ok (.iload_n 0, 1) := by decide +kernel
theorem dJ9_min_7cf53_6 : decode cJ9_min_7cf53 6 = .ok (.goto 4, 3) := by decide +kernel
theorem dJ9_min_7cf53_9 : decode cJ9_min_7cf53 9 = .ok (.iload_n 1, 1) := by decide +kernel
theorem dJ9_min_7cf53_10 : decode cJ9_min_7cf53 10 = .ok (.ireturn, 1) := by decide +kernel

theorem dX5_init_0 : decode cX5_init 0 = .ok (.aload_n 0, 1) := by decide +kernel
theorem dX5_init_1 : decode cX5_init 1 = .ok (.invokespecial 1, 3) := by decide +kernel
theorem dX5_init_4 : decode cX5_init 4 = .ok (.aload_n 0, 1) := by decide +kernel
theorem dX5_init_5 : decode cX5_init 5 = .ok (.sipush 304, 3) := by decide +kernel
theorem dX5_init_8 : decode cX5_init 8 = .ok (.newarray .int, 2) := by decide +kernel
theorem dX5_init_10 : decode cX5_init 10 = .ok (.putfield 7, 3) := by decide +kernel
theorem dX5_init_13 : decode cX5_init 13 = .ok (.aload_n 0, 1) := by decide +kernel
theorem dX5_init_14 : decode cX5_init 14 = .ok (.sipush 1216, 3) := by decide +kernel
theorem dX5_init_17 : decode cX5_init 17 = .ok (.newarray .int, 2) := by decide +kernel
theorem dX5_init_19 : decode cX5_init 19 = .ok (.putfield 13, 3) := by decide +kernel
theorem dX5_init_22 : decode cX5_init 22 = .ok (.aload_n 0, 1) := by decide +kernel
theorem dX5_init_23 : decode cX5_init 23 = .ok (.sipush 304, 3) := by decide +kernel
theorem dX5_init_26 : decode cX5_init 26 = .ok (.newarray .int, 2) := by decide +kernel
theorem dX5_init_28 : decode cX5_init 28 = .ok (.putfield 16, 3) := by decide +kernel
theorem dX5_init_31 : decode cX5_init 31 = .ok (.aload_n 0, 1) := by decide +kernel
theorem dX5_init_32 : decode cX5_init 32 = .ok (.sipush 304, 3) := by decide +kernel
theorem dX5_init_35 : decode cX5_init 35 = .ok (.newarray .int, 2) := by decide +kernel
theorem dX5_init_37 : decode cX5_init 37 = .ok (.putfield 19, 3) := by decide +kernel
theorem dX5_init_40 : decode cX5_init 40 = .ok (.aload_n 0, 1) := by decide +kernel
theorem dX5_init_41 : decode cX5_init 41 = .ok (.bipush 60, 2) := by decide +kernel
theorem dX5_init_43 : decode cX5_init 43 = .ok (.newarray .int, 2) := by decide +kernel
theorem dX5_init_45 : decode cX5_init 45 = .ok (.putfield 22, 3) := by decide +kernel
theorem dX5_init_48 : decode cX5_init 48 = .ok (.aload_n 0, 1) := by decide +kernel
theorem dX5_init_49 : decode cX5_init 49 = .ok (.bipush 8, 2) := by decide +kernel
theorem dX5_init_51 : decode cX5_init 51 = .ok (.newarray .int, 2) := by decide +kernel
theorem dX5_init_53 : decode cX5_init 53 = .ok (.putfield 25, 3) := by decide +kernel
theorem dX5_init_56 : decode cX5_init 56 = .ok (.aload_n 0, 1) := by decide +kernel
theorem dX5_init_57 : decode cX5_init 57 = .ok (.bipush 9, 2) := by decide +kernel
theorem dX5_init_59 : decode cX5_init 59 = .ok (.newarray .int, 2) := by decide +kernel
theorem dX5_init_61 : decode cX5_init 61 = .ok (.putfield 28, 3) := by decide +kernel
theorem dX5_init_64 : decode cX5_init 64 = .ok (.aload_n 0, 1) := by decide +kernel
theorem dX5_init_65 : decode cX5_init 65 = .ok (.bipush 8, 2) := by decide +kernel
theorem dX5_init_67 : decode cX5_init 67 = .ok (.newarray .int, 2) := by decide +kernel
theorem dX5_init_69 : decode cX5_init 69 = .ok (.putfield 31, 3) := by decide +kernel
theorem dX5_init_72 : decode cX5_init 72 = .ok (.aload_n 0, 1) := by decide +kernel
theorem dX5_init_73 : decode cX5_init 73 = .ok (.iconst 4, 1) := by decide +kernel
theorem dX5_init_74 : decode cX5_init 74 = .ok (.newarray .int, 2) := by decide +kernel
theorem dX5_init_76 : decode cX5_init 76 = .ok (.putfield 34, 3) := by decide +kernel
theorem dX5_init_79 : decode cX5_init 79 = .ok (.aload_n 0, 1) := by decide +kernel
theorem dX5_init_80 : decode cX5_init 80 = .ok (.getfield 7, 3) := by decide +kernel
theorem dX5_init_83 : decode cX5_init 83 = .ok (.sipush 298, 3) := by decide +kernel
theorem dX5_init_86 : decode cX5_init 86 = .ok (.iconst 4, 1) := by decide +kernel
theorem dX5_init_87 : decode cX5_init 87 = .ok (.iastore, 1) := by decide +kernel
theorem dX5_init_88 : decode cX5_init 88 = .ok (.aload_n 0, 1) := by decide +kernel
theorem dX5_init_89 : decode cX5_init 89 = .ok (.getfield 7, 3) := by decide +kernel
theorem dX5_init_92 : decode cX5_init 92 = .ok (.sipush 299, 3) := by decide +kernel
theorem dX5_init_95 : decode cX5_init 95 = .ok (.bipush 6, 2) := by decide +kernel
theorem dX5_init_97 : decode cX5_init 97 = .ok (.iastore, 1) := by decide +kernel
theorem dX5_init_98 : decode cX5_init 98 = .ok (.aload_n 0, 1) := by decide +kernel
theorem dX5_init_99 : decode cX5_init 99 = .ok (.getfield 7, 3) := by decide +kernel
theorem dX5_init_102 : decode cX5_init 102 = .ok (.sipush 300, 3) := by decide +kernel
theorem dX5_init_105 : decode cX5_init 105 = .ok (.bipush 8, 2) := by decide +kernel
theorem dX5_init_107 : decode cX5_init 107 = .ok (.iastore, 1) := by decide +kernel
theorem dX5_init_108 : decode cX5_init 108 = .ok (.aload_n 0, 1) := by decide +kernel
theorem dX5_init_109 : decode cX5_init 109 = .ok (.getfield 7, 3) := by decide +kernel
theorem dX5_init_112 : decode cX5_init 112 = .ok (.sipush 301, 3) := by decide +kernel
theorem dX5_init_115 : decode cX5_init 115 = .ok (.bipush 10, 2) := by decide +kernel
theorem dX5_init_117 : decode cX5_init 117 = .ok (.iastore, 1) := by decide +kernel
theorem dX5_init_118 : decode cX5_init 118 = .ok (.aload_n 0, 1) := by decide +kernel
theorem dX5_init_119 : decode cX5_init 119 = .ok (.getfield 7, 3) := by decide +kernel
theorem dX5_init_122 : decode cX5_init 122 = .ok (.sipush 302, 3) := by decide +kernel
theorem dX5_init_125 : decode cX5_init 125 = .ok (.bipush 20, 2) := by decide +kernel
theorem dX5_init_127 : decode cX5_init 127 = .ok (.iastore, 1) := by decide +kernel
theorem dX5_init_128 : decode cX5_init 128 = .ok (.aload_n 0, 1) := by decide +kernel
theorem dX5_init_129 : decode cX5_init 129 = .ok (.getfield 7, 3) := by decide +kernel
theorem dX5_init_132 : decode cX5_init 132 = .ok (.sipush 303, 3) := by decide +kernel
theorem dX5_init_135 : decode cX5_init 135 = .ok (.iconst 3, 1) := by decide +kernel
theorem dX5_init_136 : decode cX5_init 136 = .ok (.iastore, 1) := by decide +kernel
theorem dX5_init_137 : decode cX5_init 137 = .ok (.return_, 1) := by decide +kernel
theorem dX5_in_0 : decode cX5_in 0 = .ok (.iload_n 0, 1) := by decide +kernel
theorem dX5_in_1 : decode cX5_in 1 = .ok (.iload_n 1, 1) := by decide +kernel
theorem dX5_in_2 : decode cX5_in 2 = .ok (.if_icmp .lt 12, 3) := by decide +kernel
theorem dX5_in_5 : decode cX5_in 5 = .ok (.iload_n 0, 1) := by decide +kernel
theorem dX5_in_6 : decode cX5_in 6 = .ok (.iload_n 2, 1) := by decide +kernel
theorem dX5_in_7 : decode cX5_in 7 = .ok (.if_icmp .gt 7, 3) := by decide +kernel
theorem dX5_in_10 : decode cX5_in 10 = .ok (.iconst 1, 1) := by decide +kernel
theorem dX5_in_11 : decode cX5_in 11 = .ok (.goto 4, 3) := by decide +kernel
theorem dX5_in_14 : decode cX5_in 14 = .ok (.iconst 0, 1) := by decide +kernel
theorem dX5_in_15 : decode cX5_in 15 = .ok (.ireturn, 1) := by decide +kernel
theorem dX5_copies_0 : decode cX5_copies 0 = .ok (.iconst 0, 1) := by decide +kernel
theorem dX5_copies_1 : decode cX5_copies 1 = .ok (.istore_n 2, 1) := by decide +kernel
theorem dX5_copies_2 : decode cX5_copies 2 = .ok (.iload_n 2, 1) := by decide +kernel
theorem dX5_copies_3 : decode cX5_copies 3 = .ok (.sipush 304, 3) := by decide +kernel
theorem dX5_copies_6 : decode cX5_copies 6 = .ok (.if_icmp .ge 15, 3) := by decide +kernel
theorem dX5_copies_9 : decode cX5_copies 9 = .ok (.aload_n 1, 1) := by decide +kernel
theorem dX5_copies_10 : decode cX5_copies 10 = .ok (.iload_n 2, 1) := by decide +kernel
theorem dX5_copies_11 : decode cX5_copies 11 = .ok (.aload_n 0, 1) := by decide +kernel
theorem dX5_copies_12 : decode cX5_copies 12 = .ok (.iload_n 2, 1) := by decide +kernel
theorem dX5_copies_13 : decode cX5_copies 13 = .ok (.iaload, 1) := by decide +kernel
theorem dX5_copies_14 : decode cX5_copies 14 = .ok (.iastore, 1) := by decide +kernel
theorem dX5_copies_15 : decode cX5_copies 15 = .ok (.iinc 2 1, 3) := by decide +kernel
theorem dX5_copies_18 : decode cX5_copies 18 = .ok (.goto (-16), 3) := by decide +kernel
theorem dX5_copies_21 : decode cX5_copies 21 = .ok (.return_, 1) := by decide +kernel
theorem dX5_changes_0 : decode cX5_changes 0 = .ok (.aload_n 0, 1) := by decide +kernel
theorem dX5_changes_1 : decode cX5_changes 1 = .ok (.getfield 37, 3) := by decide +kernel
theorem dX5_changes_4 : decode cX5_changes 4 = .ok (.ifCond .eq 4, 3) := by decide +kernel
theorem dX5_changes_7 : decode cX5_changes 7 = .ok (.return_, 1) := by decide +kernel
theorem dX5_changes_8 : decode cX5_changes 8 = .ok (.aload_n 0, 1) := by decide +kernel
theorem dX5_changes_9 : decode cX5_changes 9 = .ok (.getfield 41, 3) := by decide +kernel
theorem dX5_changes_12 : decode cX5_changes 12 = .ok (.iconst 4, 1) := by decide +kernel
theorem dX5_changes_13 : decode cX5_changes 13 = .ok (.if_icmp .ne 44, 3) := by decide +kernel
theorem dX5_changes_16 : decode cX5_changes 16 = .ok (.iconst 0, 1) := by decide +kernel
theorem dX5_changes_17 : decode cX5_changes 17 = .ok (.istore_n 1, 1) := by decide +kernel
theorem dX5_changes_18 : decode cX5_changes 18 = .ok (.iload_n 1, 1) := by decide +kernel
theorem dX5_changes_19 : decode cX5_changes 19 = .ok (.sipush 912, 3) := by decide +kernel
theorem dX5_changes_22 : decode cX5_changes 22 = .ok (.if_icmp .ge 25, 3) := by decide +kernel
theorem dX5_changes_25 : decode cX5_changes 25 = .ok (.aload_n 0, 1) := by decide +kernel
theorem dX5_changes_26 : decode cX5_changes 26 = .ok (.getfield 13, 3) := by decide +kernel
theorem dX5_changes_29 : decode cX5_changes 29 = .ok (.iload_n 1, 1) := by decide +kernel
theorem dX5_changes_30 : decode cX5_changes 30 = .ok (.aload_n 0, 1) := by decide +kernel
theorem dX5_changes_31 : decode cX5_changes 31 = .ok (.getfield 13, 3) := by decide +kernel
theorem dX5_changes_34 : decode cX5_changes 34 = .ok (.iload_n 1, 1) := by decide +kernel
theorem dX5_changes_35 : decode cX5_changes 35 = .ok (.sipush 304, 3) := by decide +kernel
theorem dX5_changes_38 : decode cX5_changes 38 = .ok (.iadd, 1) := by decide +kernel
theorem dX5_changes_39 : decode cX5_changes 39 = .ok (.iaload, 1) := by decide +kernel
theorem dX5_changes_40 : decode cX5_changes 40 = .ok (.iastore, 1) := by decide +kernel
theorem dX5_changes_41 : decode cX5_changes 41 = .ok (.iinc 1 1, 3) := by decide +kernel
theorem dX5_changes_44 : decode cX5_changes 44 = .ok (.goto (-26), 3) := by decide +kernel
theorem dX5_changes_47 : decode cX5_changes 47 = .ok (.aload_n 0, 1) := by decide +kernel
theorem dX5_changes_48 : decode cX5_changes 48 = .ok (.dup, 1) := by decide +kernel
theorem dX5_changes_49 : decode cX5_changes 49 = .ok (.getfield 41, 3) := by decide +kernel
theorem dX5_changes_52 : decode cX5_changes 52 = .ok (.iconst 1, 1) := by decide +kernel
theorem dX5_changes_53 : decode cX5_changes 53 = .ok (.isub, 1) := by decide +kernel
theorem dX5_changes_54 : decode cX5_changes 54 = .ok (.putfield 41, 3) := by decide +kernel
theorem dX5_changes_57 : decode cX5_changes 57 = .ok (.iconst 0, 1) := by decide +kernel
theorem dX5_changes_58 : decode cX5_changes 58 = .ok (.istore_n 1, 1) := by decide +kernel
theorem dX5_changes_59 : decode cX5_changes 59 = .ok (.iload_n 1, 1) := by decide +kernel
theorem dX5_changes_60 : decode cX5_changes 60 = .ok (.sipush 304, 3) := by decide +kernel
theorem dX5_changes_63 : decode cX5_changes 63 = .ok (.if_icmp .ge 30, 3) := by decide +kernel
theorem dX5_changes_66 : decode cX5_changes 66 = .ok (.aload_n 0, 1) := by decide +kernel
theorem dX5_changes_67 : decode cX5_changes 67 = .ok (.getfield 13, 3) := by decide +kernel
theorem dX5_changes_70 : decode cX5_changes 70 = .ok (.sipush 304, 3) := by decide +kernel
theorem dX5_changes_73 : decode cX5_changes 73 = .ok (.aload_n 0, 1) := by decide +kernel
theorem dX5_changes_74 : decode cX5_changes 74 = .ok (.getfield 41, 3) := by decide +kernel
theorem dX5_changes_77 : decode cX5_changes 77 = .ok (.imul, 1) := by decide +kernel
theorem dX5_changes_78 : decode cX5_changes 78 = .ok (.iload_n 1, 1) := by decide +kernel
theorem dX5_changes_79 : decode cX5_changes 79 = .ok (.iadd, 1) := by decide +kernel
theorem dX5_changes_80 : decode cX5_changes 80 = .ok (.aload_n 0, 1) := by decide +kernel
theorem dX5_changes_81 : decode cX5_changes 81 = .ok (.getfield 7, 3) := by decide +kernel
theorem dX5_changes_84 : decode cX5_changes 84 = .ok (.iload_n 1, 1) := by decide +kernel
theorem dX5_changes_85 : decode cX5_changes 85 = .ok (.iaload, 1) := by decide +kernel
theorem dX5_changes_86 : decode cX5_changes 86 = .ok (.iastore, 1) := by decide +kernel
theorem dX5_changes_87 : decode cX5_changes 87 = .ok (.iinc 1 1, 3) := by decide +kernel
theorem dX5_changes_90 : decode cX5_changes 90 = .ok (.goto (-31), 3) := by decide +kernel
theorem dX5_changes_93 : decode cX5_changes 93 = .ok (.aload_n 0, 1) := by decide +kernel
theorem dX5_changes_94 : decode cX5_changes 94 = .ok (.dup, 1) := by decide +kernel
theorem dX5_changes_95 : decode cX5_changes 95 = .ok (.getfield 41, 3) := by decide +kernel
theorem dX5_changes_98 : decode cX5_changes 98 = .ok (.iconst 1, 1) := by decide +kernel
theorem dX5_changes_99 : decode cX5_changes 99 = .ok (.iadd, 1) := by decide +kernel
theorem dX5_changes_100 : decode cX5_changes 100 = .ok (.putfield 41, 3) := by decide +kernel
theorem dX5_changes_103 : decode cX5_changes 103 = .ok (.return_, 1) := by decide +kernel
theorem dX5_of_0 : decode cX5_of 0 = .ok (.aload_n 0, 1) := by decide +kernel
theorem dX5_of_1 : decode cX5_of 1 = .ok (.getfield 7, 3) := by decide +kernel
theorem dX5_of_4 : decode cX5_of 4 = .ok (.bipush 6, 2) := by decide +kernel
theorem dX5_of_6 : decode cX5_of 6 = .ok (.iload_n 1, 1) := by decide +kernel
theorem dX5_of_7 : decode cX5_of 7 = .ok (.imul, 1) := by decide +kernel
theorem dX5_of_8 : decode cX5_of 8 = .ok (.iload_n 2, 1) := by decide +kernel
theorem dX5_of_9 : decode cX5_of 9 = .ok (.iadd, 1) := by decide +kernel
theorem dX5_of_10 : decode cX5_of 10 = .ok (.iaload, 1) := by decide +kernel
theorem dX5_of_11 : decode cX5_of 11 = .ok (.ireturn, 1) := by decide +kernel
theorem dX5_lay_0 : decode cX5_lay 0 = .ok (.aload_n 0, 1) := by decide +kernel
theorem dX5_lay_1 : decode cX5_lay 1 = .ok (.getfield 7, 3) := by decide +kernel
theorem dX5_lay_4 : decode cX5_lay 4 = .ok (.bipush 6, 2) := by decide +kernel
theorem dX5_lay_6 : decode cX5_lay 6 = .ok (.iload_n 1, 1) := by decide +kernel
theorem dX5_lay_7 : decode cX5_lay 7 = .ok (.imul, 1) := by decide +kernel
theorem dX5_lay_8 : decode cX5_lay 8 = .ok (.iload_n 2, 1) := by decide +kernel
theorem dX5_lay_9 : decode cX5_lay 9 = .ok (.iadd, 1) := by decide +kernel
theorem dX5_lay_10 : decode cX5_lay 10 = .ok (.iload_n 3, 1) := by decide +kernel
theorem dX5_lay_11 : decode cX5_lay 11 = .ok (.iastore, 1) := by decide +kernel
theorem dX5_lay_12 : decode cX5_lay 12 = .ok (.return_, 1) := by decide +kernel
theorem dX5_at_0 : decode cX5_at 0 = .ok (.sipush 240, 3) := by decide +kernel
theorem dX5_at_3 : decode cX5_at 3 = .ok (.bipush 6, 2) := by decide +kernel
theorem dX5_at_5 : decode cX5_at 5 = .ok (.iload_n 0, 1) := by decide +kernel
theorem dX5_at_6 : decode cX5_at 6 = .ok (.imul, 1) := by decide +kernel
theorem dX5_at_7 : decode cX5_at 7 = .ok (.iadd, 1) := by decide +kernel
theorem dX5_at_8 : decode cX5_at 8 = .ok (.iload_n 1, 1) := by decide +kernel
theorem dX5_at_9 : decode cX5_at 9 = .ok (.iadd, 1) := by decide +kernel
theorem dX5_at_10 : decode cX5_at 10 = .ok (.ireturn, 1) := by decide +kernel
set_option maxRecDepth 20000 in
theorem ggX5_isPupil_X5_in : GoodIn wsX5_isPupil wsX5_in := goodIn_r _ [5] (by decide +kernel) (by decide +kernel)
set_option maxRecDepth 20000 in
theorem gX5_isPupil_X5_in : GoodIn wsX5_isPupil (va_wsS RX5 45 yX5_in wsX5_in) := goodIn_app (goodIn_of _ (by decide +kernel)) ggX5_isPupil_X5_in
theorem dX5_isPupil_0 : decode cX5_isPupil 0 = .ok (.iload_n 1, 1) := by decide +kernel
theorem dX5_isPupil_1 : decode cX5_isPupil 1 = .ok (.iconst 0, 1) := by decide +kernel
theorem dX5_isPupil_2 : decode cX5_isPupil 2 = .ok (.aload_n 0, 1) := by decide +kernel
theorem dX5_isPupil_3 : decode cX5_isPupil 3 = .ok (.getfield 7, 3) := by decide +kernel
theorem dX5_isPupil_6 : decode cX5_isPupil 6 = .ok (.sipush 289, 3) := by decide +kernel
theorem dX5_isPupil_9 : decode cX5_isPupil 9 = .ok (.iaload, 1) := by decide +kernel
theorem dX5_isPupil_10 : decode cX5_isPupil 10 = .ok (.iconst 1, 1) := by decide +kernel
theorem dX5_isPupil_11 : decode cX5_isPupil 11 = .ok (.isub, 1) := by decide +kernel
theorem dX5_isPupil_12 : decode cX5_isPupil 12 = .ok (.invokestatic 45, 3) := by decide +kernel
theorem dX5_isPupil_15 : decode cX5_isPupil 15 = .ok (.ireturn, 1) := by decide +kernel
set_option maxRecDepth 20000 in
theorem ggX5_isKind_X5_in : GoodIn wsX5_isKind wsX5_in := goodIn_r _ [4] (by decide +kernel) (by decide +kernel)
set_option maxRecDepth 20000 in
theorem gX5_isKind_X5_in : GoodIn wsX5_isKind (va_wsS RX5 45 yX5_in wsX5_in) := goodIn_app (goodIn_of _ (by decide +kernel)) ggX5_isKind_X5_in
theorem dX5_isKind_0 : decode cX5_isKind 0 = .ok (.iload_n 0, 1) := by decide +kernel
theorem dX5_isKind_1 : decode cX5_isKind 1 = .ok (.iconst 0, 1) := by decide +kernel
theorem dX5_isKind_2 : decode cX5_isKind 2 = .ok (.iconst 3, 1) := by decide +kernel
theorem dX5_isKind_3 : decode cX5_isKind 3 = .ok (.invokestatic 45, 3) := by decide +kernel
theorem dX5_isKind_6 : decode cX5_isKind 6 = .ok (.ireturn, 1) := by decide +kernel
set_option maxRecDepth 20000 in
theorem ggX5_isPair_X5_isPupil : GoodIn wsX5_isPair wsX5_isPupil := goodIn_r _ [5, 6, 7, 8, 4, 9, 10, 11, 12, 13, 14, 15, 16, 17, 18, 19, 20, 21, 22, 23, 24, 25, 26, 27] (by decide +kernel) (by decide +kernel)
set_option maxRecDepth 20000 in
theorem gX5_isPair_X5_isPupil : GoodIn wsX5_isPair (wsV RX5 49 RX5 yX5_isPupil wsX5_isPupil) := goodIn_app (goodIn_of _ (by decide +kernel)) ggX5_isPair_X5_isPupil
theorem dX5_isPair_0 : decode cX5_isPair 0 = .ok (.aload_n 0, 1) := by decide +kernel
theorem dX5_isPair_1 : decode cX5_isPair 1 = .ok (.iload_n 1, 1) := by decide +kernel
theorem dX5_isPair_2 : decode cX5_isPair 2 = .ok (.invokevirtual 49, 3) := by decide +kernel
theorem dX5_isPair_5 : decode cX5_isPair 5 = .ok (.ifCond .eq 20, 3) := by decide +kernel
theorem dX5_isPair_8 : decode cX5_isPair 8 = .ok (.aload_n 0, 1) := by decide +kernel
theorem dX5_isPair_9 : decode cX5_isPair 9 = .ok (.iload_n 2, 1) := by decide +kernel
theorem dX5_isPair_10 : decode cX5_isPair 10 = .ok (.invokevirtual 49, 3) := by decide +kernel
theorem dX5_isPair_13 : decode cX5_isPair 13 = .ok (.ifCond .eq 12, 3) := by decide +kernel
theorem dX5_isPair_16 : decode cX5_isPair 16 = .ok (.iload_n 1, 1) := by decide +kernel
theorem dX5_isPair_17 : decode cX5_isPair 17 = .ok (.iload_n 2, 1) := by decide +kernel
theorem dX5_isPair_18 : decode cX5_isPair 18 = .ok (.if_icmp .eq 7, 3) := by decide +kernel
theorem dX5_isPair_21 : decode cX5_isPair 21 = .ok (.iconst 1, 1) := by decide +kernel
theorem dX5_isPair_22 : decode cX5_isPair 22 = .ok (.goto 4, 3) := by decide +kernel
theorem dX5_isPair_25 : decode cX5_isPair 25 = .ok (.iconst 0, 1) := by decide +kernel
theorem dX5_isPair_26 : decode cX5_isPair 26 = .ok (.ireturn, 1) := by decide +kernel
set_option maxRecDepth 20000 in
theorem ggX5_owed_X5_of : GoodIn wsX5_owed wsX5_of := goodIn_r _ [6, 1, 7, 8, 9, 10, 11, 12, 13, 14, 15, 16, 17, 18, 19, 20, 21, 22, 23, 24] (by decide +kernel) (by decide +kernel)
set_option maxRecDepth 20000 in
theorem gX5_owed_X5_of : GoodIn wsX5_owed (wsV RX5 53 RX5 yX5_of wsX5_of) := goodIn_app (goodIn_of _ (by decide +kernel)) ggX5_owed_X5_of
theorem dX5_owed_0 : decode cX5_owed 0 = .ok (.iconst 0, 1) := by decide +kernel
theorem dX5_owed_1 : decode cX5_owed 1 = .ok (.istore 4, 2) := by decide +kernel
theorem dX5_owed_3 : decode cX5_owed 3 = .ok (.iconst 0, 1) := by decide +kernel
theorem dX5_owed_4 : decode cX5_owed 4 = .ok (.istore 5, 2) := by decide +kernel
theorem dX5_owed_6 : decode cX5_owed 6 = .ok (.iload 5, 2) := by decide +kernel
theorem dX5_owed_8 : decode cX5_owed 8 = .ok (.aload_n 0, 1) := by decide +kernel
theorem dX5_owed_9 : decode cX5_owed 9 = .ok (.getfield 7, 3) := by decide +kernel
theorem dX5_owed_12 : decode cX5_owed 12 = .ok (.sipush 290, 3) := by decide +kernel
theorem dX5_owed_15 : decode cX5_owed 15 = .ok (.iaload, 1) := by decide +kernel
theorem dX5_owed_16 : decode cX5_owed 16 = .ok (.if_icmp .ge 58, 3) := by decide +kernel
theorem dX5_owed_19 : decode cX5_owed 19 = .ok (.iload 4, 2) := by decide +kernel
theorem dX5_owed_21 : decode cX5_owed 21 = .ok (.aload_n 0, 1) := by decide +kernel
theorem dX5_owed_22 : decode cX5_owed 22 = .ok (.iload 5, 2) := by decide +kernel
theorem dX5_owed_24 : decode cX5_owed 24 = .ok (.iconst 0, 1) := by decide +kernel
theorem dX5_owed_25 : decode cX5_owed 25 = .ok (.invokevirtual 53, 3) := by decide +kernel
theorem dX5_owed_28 : decode cX5_owed 28 = .ok (.iload_n 1, 1) := by decide +kernel
theorem dX5_owed_29 : decode cX5_owed 29 = .ok (.if_icmp .ne 35, 3) := by decide +kernel
theorem dX5_owed_32 : decode cX5_owed 32 = .ok (.aload_n 0, 1) := by decide +kernel
theorem dX5_owed_33 : decode cX5_owed 33 = .ok (.iload 5, 2) := by decide +kernel
theorem dX5_owed_35 : decode cX5_owed 35 = .ok (.iconst 1, 1) := by decide +kernel
theorem dX5_owed_36 : decode cX5_owed 36 = .ok (.invokevirtual 53, 3) := by decide +kernel
theorem dX5_owed_39 : decode cX5_owed 39 = .ok (.iload_n 2, 1) := by decide +kernel
theorem dX5_owed_40 : decode cX5_owed 40 = .ok (.if_icmp .ne 24, 3) := by decide +kernel
theorem dX5_owed_43 : decode cX5_owed 43 = .ok (.aload_n 0, 1) := by decide +kernel
theorem dX5_owed_44 : decode cX5_owed 44 = .ok (.iload 5, 2) := by decide +kernel
theorem dX5_owed_46 : decode cX5_owed 46 = .ok (.iconst 2, 1) := by decide +kernel
theorem dX5_owed_47 : decode cX5_owed 47 = .ok (.invokevirtual 53, 3) := by decide +kernel
theorem dX5_owed_50 : decode cX5_owed 50 = .ok (.iload_n 3, 1) := by decide +kernel
theorem dX5_owed_51 : decode cX5_owed 51 = .ok (.if_icmp .ne 13, 3) := by decide +kernel
theorem dX5_owed_54 : decode cX5_owed 54 = .ok (.aload_n 0, 1) := by decide +kernel
theorem dX5_owed_55 : decode cX5_owed 55 = .ok (.iload 5, 2) := by decide +kernel
theorem dX5_owed_57 : decode cX5_owed 57 = .ok (.iconst 3, 1) := by decide +kernel
theorem dX5_owed_58 : decode cX5_owed 58 = .ok (.invokevirtual 53, 3) := by decide +kernel
theorem dX5_owed_61 : decode cX5_owed 61 = .ok (.goto 4, 3) := by decide +kernel
theorem dX5_owed_64 : decode cX5_owed 64 = .ok (.iconst 0, 1) := by decide +kernel
theorem dX5_owed_65 : decode cX5_owed 65 = .ok (.iadd, 1) := by decide +kernel
theorem dX5_owed_66 : decode cX5_owed 66 = .ok (.istore 4, 2) := by decide +kernel
theorem dX5_owed_68 : decode cX5_owed 68 = .ok (.iinc 5 1, 3) := by decide +kernel
theorem dX5_owed_71 : decode cX5_owed 71 = .ok (.goto (-65), 3) := by decide +kernel
theorem dX5_owed_74 : decode cX5_owed 74 = .ok (.iload 4, 2) := by decide +kernel
theorem dX5_owed_76 : decode cX5_owed 76 = .ok (.ireturn, 1) := by decide +kernel
set_option maxRecDepth 20000 in
theorem ggX5_sumOf_X5_of : GoodIn wsX5_sumOf wsX5_of := goodIn_r _ [6, 1, 7, 8, 9, 10, 11, 12, 13, 14, 15, 16, 17, 18, 19, 20, 21, 22, 23, 24] (by decide +kernel) (by decide +kernel)
set_option maxRecDepth 20000 in
theorem gX5_sumOf_X5_of : GoodIn wsX5_sumOf (wsV RX5 53 RX5 yX5_of wsX5_of) := goodIn_app (goodIn_of _ (by decide +kernel)) ggX5_sumOf_X5_of
theorem dX5_sumOf_0 : decode cX5_sumOf 0 = .ok (.iconst 0, 1) := by decide +kernel
theorem dX5_sumOf_1 : decode cX5_sumOf 1 = .ok (.istore_n 3, 1) := by decide +kernel
theorem dX5_sumOf_2 : decode cX5_sumOf 2 = .ok (.iconst 0, 1) := by decide +kernel
theorem dX5_sumOf_3 : decode cX5_sumOf 3 = .ok (.istore 4, 2) := by decide +kernel
theorem dX5_sumOf_5 : decode cX5_sumOf 5 = .ok (.iload 4, 2) := by decide +kernel
theorem dX5_sumOf_7 : decode cX5_sumOf 7 = .ok (.aload_n 0, 1) := by decide +kernel
theorem dX5_sumOf_8 : decode cX5_sumOf 8 = .ok (.getfield 7, 3) := by decide +kernel
theorem dX5_sumOf_11 : decode cX5_sumOf 11 = .ok (.sipush 290, 3) := by decide +kernel
theorem dX5_sumOf_14 : decode cX5_sumOf 14 = .ok (.iaload, 1) := by decide +kernel
theorem dX5_sumOf_15 : decode cX5_sumOf 15 = .ok (.if_icmp .ge 34, 3) := by decide +kernel
theorem dX5_sumOf_18 : decode cX5_sumOf 18 = .ok (.iload_n 3, 1) := by decide +kernel
theorem dX5_sumOf_19 : decode cX5_sumOf 19 = .ok (.aload_n 0, 1) := by decide +kernel
theorem dX5_sumOf_20 : decode cX5_sumOf 20 = .ok (.iload 4, 2) := by decide +kernel
theorem dX5_sumOf_22 : decode cX5_sumOf 22 = .ok (.iload_n 2, 1) := by decide +kernel
theorem dX5_sumOf_23 : decode cX5_sumOf 23 = .ok (.invokevirtual 53, 3) := by decide +kernel
theorem dX5_sumOf_26 : decode cX5_sumOf 26 = .ok (.iload_n 1, 1) := by decide +kernel
theorem dX5_sumOf_27 : decode cX5_sumOf 27 = .ok (.if_icmp .ne 13, 3) := by decide +kernel
theorem dX5_sumOf_30 : decode cX5_sumOf 30 = .ok (.aload_n 0, 1) := by decide +kernel
theorem dX5_sumOf_31 : decode cX5_sumOf 31 = .ok (.iload 4, 2) := by decide +kernel
theorem dX5_sumOf_33 : decode cX5_sumOf 33 = .ok (.iconst 3, 1) := by decide +kernel
theorem dX5_sumOf_34 : decode cX5_sumOf 34 = .ok (.invokevirtual 53, 3) := by decide +kernel
theorem dX5_sumOf_37 : decode cX5_sumOf 37 = .ok (.goto 4, 3) := by decide +kernel
theorem dX5_sumOf_40 : decode cX5_sumOf 40 = .ok (.iconst 0, 1) := by decide +kernel
theorem dX5_sumOf_41 : decode cX5_sumOf 41 = .ok (.iadd, 1) := by decide +kernel
theorem dX5_sumOf_42 : decode cX5_sumOf 42 = .ok (.istore_n 3, 1) := by decide +kernel
theorem dX5_sumOf_43 : decode cX5_sumOf 43 = .ok (.iinc 4 1, 3) := by decide +kernel
theorem dX5_sumOf_46 : decode cX5_sumOf 46 = .ok (.goto (-41), 3) := by decide +kernel
theorem dX5_sumOf_49 : decode cX5_sumOf 49 = .ok (.iload_n 3, 1) := by decide +kernel
theorem dX5_sumOf_50 : decode cX5_sumOf 50 = .ok (.ireturn, 1) := by decide +kernel
set_option maxRecDepth 20000 in
theorem ggX5_dropsEmpty_X5_of : GoodIn wsX5_dropsEmpty wsX5_of := goodIn_r _ [6, 1, 7, 8, 9, 10, 11, 12, 13, 14, 15, 16, 17, 18, 19, 20, 21, 22, 23, 24] (by decide +kernel) (by decide +kernel)
set_option maxRecDepth 20000 in
theorem gX5_dropsEmpty_X5_of : GoodIn wsX5_dropsEmpty (wsV RX5 53 RX5 yX5_of wsX5_of) := goodIn_app (goodIn_of _ (by decide +kernel)) ggX5_dropsEmpty_X5_of
theorem dX5_dropsEmpty_0 : decode cX5_dropsEmpty 0 = .ok (.iconst 0, 1) := by decide +kernel
theorem dX5_dropsEmpty_1 : decode cX5_dropsEmpty 1 = .ok (.istore_n 1, 1) := by decide +kernel
theorem dX5_dropsEmpty_2 : decode cX5_dropsEmpty 2 = .ok (.iconst 0, 1) := by decide +kernel
theorem dX5_dropsEmpty_3 : decode cX5_dropsEmpty 3 = .ok (.istore_n 2, 1) := by decide +kernel
theorem dX5_dropsEmpty_4 : decode cX5_dropsEmpty 4 = .ok (.iload_n 2, 1) := by decide +kernel
theorem dX5_dropsEmpty_5 : decode cX5_dropsEmpty 5 = .ok (.aload_n 0, 1) := by decide +kernel
theorem dX5_dropsEmpty_6 : decode cX5_dropsEmpty 6 = .ok (.getfield 7, 3) := by decide +kernel
theorem dX5_dropsEmpty_9 : decode cX5_dropsEmpty 9 = .ok (.sipush 290, 3) := by decide +kernel
theorem dX5_dropsEmpty_12 : decode cX5_dropsEmpty 12 = .ok (.iaload, 1) := by decide +kernel
theorem dX5_dropsEmpty_13 : decode cX5_dropsEmpty 13 = .ok (.if_icmp .ge 57, 3) := by decide +kernel
theorem dX5_dropsEmpty_16 : decode cX5_dropsEmpty 16 = .ok (.aload_n 0, 1) := by decide +kernel
theorem dX5_dropsEmpty_17 : decode cX5_dropsEmpty 17 = .ok (.iload_n 2, 1) := by decide +kernel
theorem dX5_dropsEmpty_18 : decode cX5_dropsEmpty 18 = .ok (.iconst 3, 1) := by decide +kernel
theorem dX5_dropsEmpty_19 : decode cX5_dropsEmpty 19 = .ok (.invokevirtual 53, 3) := by decide +kernel
theorem dX5_dropsEmpty_22 : decode cX5_dropsEmpty 22 = .ok (.ifCond .le 42, 3) := by decide +kernel
theorem dX5_dropsEmpty_25 : decode cX5_dropsEmpty 25 = .ok (.iconst 0, 1) := by decide +kernel
theorem dX5_dropsEmpty_26 : decode cX5_dropsEmpty 26 = .ok (.istore_n 3, 1) := by decide +kernel
theorem dX5_dropsEmpty_27 : decode cX5_dropsEmpty 27 = .ok (.iload_n 3, 1) := by decide +kernel
theorem dX5_dropsEmpty_28 : decode cX5_dropsEmpty 28 = .ok (.bipush 6, 2) := by decide +kernel
theorem dX5_dropsEmpty_30 : decode cX5_dropsEmpty 30 = .ok (.if_icmp .ge 31, 3) := by decide +kernel
theorem dX5_dropsEmpty_33 : decode cX5_dropsEmpty 33 = .ok (.aload_n 0, 1) := by decide +kernel
theorem dX5_dropsEmpty_34 : decode cX5_dropsEmpty 34 = .ok (.getfield 7, 3) := by decide +kernel
theorem dX5_dropsEmpty_37 : decode cX5_dropsEmpty 37 = .ok (.bipush 6, 2) := by decide +kernel
theorem dX5_dropsEmpty_39 : decode cX5_dropsEmpty 39 = .ok (.iload_n 1, 1) := by decide +kernel
theorem dX5_dropsEmpty_40 : decode cX5_dropsEmpty 40 = .ok (.imul, 1) := by decide +kernel
theorem dX5_dropsEmpty_41 : decode cX5_dropsEmpty 41 = .ok (.iload_n 3, 1) := by decide +kernel
theorem dX5_dropsEmpty_42 : decode cX5_dropsEmpty 42 = .ok (.iadd, 1) := by decide +kernel
theorem dX5_dropsEmpty_43 : decode cX5_dropsEmpty 43 = .ok (.aload_n 0, 1) := by decide +kernel
theorem dX5_dropsEmpty_44 : decode cX5_dropsEmpty 44 = .ok (.getfield 7, 3) := by decide +kernel
theorem dX5_dropsEmpty_47 : decode cX5_dropsEmpty 47 = .ok (.bipush 6, 2) := by decide +kernel
theorem dX5_dropsEmpty_49 : decode cX5_dropsEmpty 49 = .ok (.iload_n 2, 1) := by decide +kernel
theorem dX5_dropsEmpty_50 : decode cX5_dropsEmpty 50 = .ok (.imul, 1) := by decide +kernel
theorem dX5_dropsEmpty_51 : decode cX5_dropsEmpty 51 = .ok (.iload_n 3, 1) := by decide +kernel
theorem dX5_dropsEmpty_52 : decode cX5_dropsEmpty 52 = .ok (.iadd, 1) := by decide +kernel
theorem dX5_dropsEmpty_53 : decode cX5_dropsEmpty 53 = .ok (.iaload, 1) := by decide +kernel
theorem dX5_dropsEmpty_54 : decode cX5_dropsEmpty 54 = .ok (.iastore, 1) := by decide +kernel
theorem dX5_dropsEmpty_55 : decode cX5_dropsEmpty 55 = .ok (.iinc 3 1, 3) := by decide +kernel
theorem dX5_dropsEmpty_58 : decode cX5_dropsEmpty 58 = .ok (.goto (-31), 3) := by decide +kernel
theorem dX5_dropsEmpty_61 : decode cX5_dropsEmpty 61 = .ok (.iinc 1 1, 3) := by decide +kernel
theorem dX5_dropsEmpty_64 : decode cX5_dropsEmpty 64 = .ok (.iinc 2 1, 3) := by decide +kernel
theorem dX5_dropsEmpty_67 : decode cX5_dropsEmpty 67 = .ok (.goto (-63), 3) := by decide +kernel
theorem dX5_dropsEmpty_70 : decode cX5_dropsEmpty 70 = .ok (.bipush 6, 2) := by decide +kernel
theorem dX5_dropsEmpty_72 : decode cX5_dropsEmpty 72 = .ok (.iload_n 1, 1) := by decide +kernel
theorem dX5_dropsEmpty_73 : decode cX5_dropsEmpty 73 = .ok (.imul, 1) := by decide +kernel
theorem dX5_dropsEmpty_74 : decode cX5_dropsEmpty 74 = .ok (.istore_n 2, 1) := by decide +kernel
theorem dX5_dropsEmpty_75 : decode cX5_dropsEmpty 75 = .ok (.iload_n 2, 1) := by decide +kernel
theorem dX5_dropsEmpty_76 : decode cX5_dropsEmpty 76 = .ok (.bipush 6, 2) := by decide +kernel
theorem dX5_dropsEmpty_78 : decode cX5_dropsEmpty 78 = .ok (.aload_n 0, 1) := by decide +kernel
theorem dX5_dropsEmpty_79 : decode cX5_dropsEmpty 79 = .ok (.getfield 7, 3) := by decide +kernel
theorem dX5_dropsEmpty_82 : decode cX5_dropsEmpty 82 = .ok (.sipush 290, 3) := by decide +kernel
theorem dX5_dropsEmpty_85 : decode cX5_dropsEmpty 85 = .ok (.iaload, 1) := by decide +kernel
theorem dX5_dropsEmpty_86 : decode cX5_dropsEmpty 86 = .ok (.imul, 1) := by decide +kernel
theorem dX5_dropsEmpty_87 : decode cX5_dropsEmpty 87 = .ok (.if_icmp .ge 16, 3) := by decide +kernel
theorem dX5_dropsEmpty_90 : decode cX5_dropsEmpty 90 = .ok (.aload_n 0, 1) := by decide +kernel
theorem dX5_dropsEmpty_91 : decode cX5_dropsEmpty 91 = .ok (.getfield 7, 3) := by decide +kernel
theorem dX5_dropsEmpty_94 : decode cX5_dropsEmpty 94 = .ok (.iload_n 2, 1) := by decide +kernel
theorem dX5_dropsEmpty_95 : decode cX5_dropsEmpty 95 = .ok (.iconst 0, 1) := by decide +kernel
theorem dX5_dropsEmpty_96 : decode cX5_dropsEmpty 96 = .ok (.iastore, 1) := by decide +kernel
theorem dX5_dropsEmpty_97 : decode cX5_dropsEmpty 97 = .ok (.iinc 2 1, 3) := by decide +kernel
theorem dX5_dropsEmpty_100 : decode cX5_dropsEmpty 100 = .ok (.goto (-25), 3) := by decide +kernel
theorem dX5_dropsEmpty_103 : decode cX5_dropsEmpty 103 = .ok (.aload_n 0, 1) := by decide +kernel
theorem dX5_dropsEmpty_104 : decode cX5_dropsEmpty 104 = .ok (.getfield 7, 3) := by decide +kernel
theorem dX5_dropsEmpty_107 : decode cX5_dropsEmpty 107 = .ok (.sipush 290, 3) := by decide +kernel
theorem dX5_dropsEmpty_110 : decode cX5_dropsEmpty 110 = .ok (.iload_n 1, 1) := by decide +kernel
theorem dX5_dropsEmpty_111 : decode cX5_dropsEmpty 111 = .ok (.iastore, 1) := by decide +kernel
theorem dX5_dropsEmpty_112 : decode cX5_dropsEmpty 112 = .ok (.return_, 1) := by decide +kernel
set_option maxRecDepth 20000 in
theorem ggX5_oldest_X5_of : GoodIn wsX5_oldest wsX5_of := goodIn_r _ [7, 2, 8, 9, 10, 11, 12, 13, 14, 15, 16, 17, 18, 19, 20, 21, 22, 23, 24, 25] (by decide +kernel) (by decide +kernel)
set_option maxRecDepth 20000 in
theorem gX5_oldest_X5_of : GoodIn wsX5_oldest (wsV RX5 53 RX5 yX5_of wsX5_of) := goodIn_app (goodIn_of _ (by decide +kernel)) ggX5_oldest_X5_of
theorem dX5_oldest_0 : decode cX5_oldest 0 = .ok (.ldc 57, 2) := by decide +kernel
theorem dX5_oldest_2 : decode cX5_oldest 2 = .ok (.istore 4, 2) := by decide +kernel
theorem dX5_oldest_4 : decode cX5_oldest 4 = .ok (.iconst 0, 1) := by decide +kernel
theorem dX5_oldest_5 : decode cX5_oldest 5 = .ok (.istore 5, 2) := by decide +kernel
theorem dX5_oldest_7 : decode cX5_oldest 7 = .ok (.iload 5, 2) := by decide +kernel
theorem dX5_oldest_9 : decode cX5_oldest 9 = .ok (.aload_n 0, 1) := by decide +kernel
theorem dX5_oldest_10 : decode cX5_oldest 10 = .ok (.getfield 7, 3) := by decide +kernel
theorem dX5_oldest_13 : decode cX5_oldest 13 = .ok (.sipush 290, 3) := by decide +kernel
theorem dX5_oldest_16 : decode cX5_oldest 16 = .ok (.iaload, 1) := by decide +kernel
theorem dX5_oldest_17 : decode cX5_oldest 17 = .ok (.if_icmp .ge 95, 3) := by decide +kernel
theorem dX5_oldest_20 : decode cX5_oldest 20 = .ok (.aload_n 0, 1) := by decide +kernel
theorem dX5_oldest_21 : decode cX5_oldest 21 = .ok (.iload 5, 2) := by decide +kernel
theorem dX5_oldest_23 : decode cX5_oldest 23 = .ok (.iconst 0, 1) := by decide +kernel
theorem dX5_oldest_24 : decode cX5_oldest 24 = .ok (.invokevirtual 53, 3) := by decide +kernel
theorem dX5_oldest_27 : decode cX5_oldest 27 = .ok (.iload_n 1, 1) := by decide +kernel
theorem dX5_oldest_28 : decode cX5_oldest 28 = .ok (.if_icmp .ne 39, 3) := by decide +kernel
theorem dX5_oldest_31 : decode cX5_oldest 31 = .ok (.aload_n 0, 1) := by decide +kernel
theorem dX5_oldest_32 : decode cX5_oldest 32 = .ok (.iload 5, 2) := by decide +kernel
theorem dX5_oldest_34 : decode cX5_oldest 34 = .ok (.iconst 1, 1) := by decide +kernel
theorem dX5_oldest_35 : decode cX5_oldest 35 = .ok (.invokevirtual 53, 3) := by decide +kernel
theorem dX5_oldest_38 : decode cX5_oldest 38 = .ok (.iload_n 2, 1) := by decide +kernel
theorem dX5_oldest_39 : decode cX5_oldest 39 = .ok (.if_icmp .ne 28, 3) := by decide +kernel
theorem dX5_oldest_42 : decode cX5_oldest 42 = .ok (.aload_n 0, 1) := by decide +kernel
theorem dX5_oldest_43 : decode cX5_oldest 43 = .ok (.iload 5, 2) := by decide +kernel
theorem dX5_oldest_45 : decode cX5_oldest 45 = .ok (.iconst 2, 1) := by decide +kernel
theorem dX5_oldest_46 : decode cX5_oldest 46 = .ok (.invokevirtual 53, 3) := by decide +kernel
theorem dX5_oldest_49 : decode cX5_oldest 49 = .ok (.iload_n 3, 1) := by decide +kernel
theorem dX5_oldest_50 : decode cX5_oldest 50 = .ok (.if_icmp .ne 17, 3) := by decide +kernel
theorem dX5_oldest_53 : decode cX5_oldest 53 = .ok (.aload_n 0, 1) := by decide +kernel
theorem dX5_oldest_54 : decode cX5_oldest 54 = .ok (.iload 5, 2) := by decide +kernel
theorem dX5_oldest_56 : decode cX5_oldest 56 = .ok (.iconst 3, 1) := by decide +kernel
theorem dX5_oldest_57 : decode cX5_oldest 57 = .ok (.invokevirtual 53, 3) := by decide +kernel
theorem dX5_oldest_60 : decode cX5_oldest 60 = .ok (.ifCond .le 7, 3) := by decide +kernel
theorem dX5_oldest_63 : decode cX5_oldest 63 = .ok (.iconst 1, 1) := by decide +kernel
theorem dX5_oldest_64 : decode cX5_oldest 64 = .ok (.goto 4, 3) := by decide +kernel
theorem dX5_oldest_67 : decode cX5_oldest 67 = .ok (.iconst 0, 1) := by decide +kernel
theorem dX5_oldest_68 : decode cX5_oldest 68 = .ok (.istore 6, 2) := by decide +kernel
theorem dX5_oldest_70 : decode cX5_oldest 70 = .ok (.iload 6, 2) := by decide +kernel
theorem dX5_oldest_72 : decode cX5_oldest 72 = .ok (.ifCond .eq 30, 3) := by decide +kernel
theorem dX5_oldest_75 : decode cX5_oldest 75 = .ok (.iload 4, 2) := by decide +kernel
theorem dX5_oldest_77 : decode cX5_oldest 77 = .ok (.ifCond .lt 20, 3) := by decide +kernel
theorem dX5_oldest_80 : decode cX5_oldest 80 = .ok (.aload_n 0, 1) := by decide +kernel
theorem dX5_oldest_81 : decode cX5_oldest 81 = .ok (.iload 5, 2) := by decide +kernel
theorem dX5_oldest_83 : decode cX5_oldest 83 = .ok (.iconst 4, 1) := by decide +kernel
theorem dX5_oldest_84 : decode cX5_oldest 84 = .ok (.invokevirtual 53, 3) := by decide +kernel
theorem dX5_oldest_87 : decode cX5_oldest 87 = .ok (.aload_n 0, 1) := by decide +kernel
theorem dX5_oldest_88 : decode cX5_oldest 88 = .ok (.iload 4, 2) := by decide +kernel
theorem dX5_oldest_90 : decode cX5_oldest 90 = .ok (.iconst 4, 1) := by decide +kernel
theorem dX5_oldest_91 : decode cX5_oldest 91 = .ok (.invokevirtual 53, 3) := by decide +kernel
theorem dX5_oldest_94 : decode cX5_oldest 94 = .ok (.if_icmp .le 8, 3) := by decide +kernel
theorem dX5_oldest_97 : decode cX5_oldest 97 = .ok (.iload 5, 2) := by decide +kernel
theorem dX5_oldest_99 : decode cX5_oldest 99 = .ok (.goto 5, 3) := by decide +kernel
theorem dX5_oldest_102 : decode cX5_oldest 102 = .ok (.iload 4, 2) := by decide +kernel
theorem dX5_oldest_104 : decode cX5_oldest 104 = .ok (.istore 4, 2) := by decide +kernel
theorem dX5_oldest_106 : decode cX5_oldest 106 = .ok (.iinc 5 1, 3) := by decide +kernel
theorem dX5_oldest_109 : decode cX5_oldest 109 = .ok (.goto (-102), 3) := by decide +kernel
theorem dX5_oldest_112 : decode cX5_oldest 112 = .ok (.iload 4, 2) := by decide +kernel
theorem dX5_oldest_114 : decode cX5_oldest 114 = .ok (.ireturn, 1) := by decide +kernel
set_option maxRecDepth 20000 in
theorem ggX5_takes_X5_oldest : GoodIn wsX5_takes wsX5_oldest := goodIn_r _ [5, 6, 7, 8, 9, 10, 4, 11, 20, 21, 22, 23, 24, 25, 26, 27, 28, 29, 30, 31, 32, 33, 34, 35, 36, 37] (by decide +kernel) (by decide +kernel)
set_option maxRecDepth 20000 in
theorem gX5_takes_X5_oldest : GoodIn wsX5_takes (wsV RX5 58 RX5 yX5_oldest wsX5_oldest) := goodIn_app (goodIn_of _ (by decide +kernel)) ggX5_takes_X5_oldest
set_option maxRecDepth 20000 in
theorem ggX5_takes_X5_of : GoodIn wsX5_takes wsX5_of := goodIn_r _ [11, 7, 20, 21, 22, 23, 24, 25, 26, 27, 28, 29, 30, 31, 32, 33, 34, 35, 36, 37] (by decide +kernel) (by decide +kernel)
set_option maxRecDepth 20000 in
theorem gX5_takes_X5_of : GoodIn wsX5_takes (wsV RX5 53 RX5 yX5_of wsX5_of) := goodIn_app (goodIn_of _ (by decide +kernel)) ggX5_takes_X5_of
set_option maxRecDepth 20000 in
theorem ggX5_takes_X5_lay : GoodIn wsX5_takes wsX5_lay := goodIn_r _ [15, 7, 20, 21, 22, 23, 24, 25, 26, 27, 28, 29, 30, 31, 32, 33, 34, 35, 36, 37] (by decide +kernel) (by decide +kernel)
set_option maxRecDepth 20000 in
theorem gX5_takes_X5_lay : GoodIn wsX5_takes (wsV RX5 62 RX5 yX5_lay wsX5_lay) := goodIn_app (goodIn_of _ (by decide +kernel)) ggX5_takes_X5_lay
set_option maxRecDepth 20000 in
theorem ggX5_takes_X5_dropsEmpty : GoodIn wsX5_takes wsX5_dropsEmpty := goodIn_r _ [19, 7, 8, 9, 10, 4, 11, 20, 21, 22, 23, 24, 25, 26, 27, 28, 29, 30, 31, 32, 33, 34, 35, 36, 37] (by decide +kernel) (by decide +kernel)
set_option maxRecDepth 20000 in
theorem gX5_takes_X5_dropsEmpty : GoodIn wsX5_takes (wsV RX5 66 RX5 yX5_dropsEmpty wsX5_dropsEmpty) := goodIn_app (goodIn_of _ (by decide +kernel)) ggX5_takes_X5_dropsEmpty
theorem dX5_takes_0 : decode cX5_takes 0 = .ok (.iload 4, 2) := by decide +kernel
theorem dX5_takes_2 : decode cX5_takes 2 = .ok (.istore 5, 2) := by decide +kernel
theorem dX5_takes_4 : decode cX5_takes 4 = .ok (.iload 5, 2) := by decide +kernel
theorem dX5_takes_6 : decode cX5_takes 6 = .ok (.ifCond .le 65, 3) := by decide +kernel
theorem dX5_takes_9 : decode cX5_takes 9 = .ok (.aload_n 0, 1) := by decide +kernel
theorem dX5_takes_10 : decode cX5_takes 10 = .ok (.iload_n 1, 1) := by decide +kernel
theorem dX5_takes_11 : decode cX5_takes 11 = .ok (.iload_n 2, 1) := by decide +kernel
theorem dX5_takes_12 : decode cX5_takes 12 = .ok (.iload_n 3, 1) := by decide +kernel
theorem dX5_takes_13 : decode cX5_takes 13 = .ok (.invokevirtual 58, 3) := by decide +kernel
theorem dX5_takes_16 : decode cX5_takes 16 = .ok (.istore 6, 2) := by decide +kernel
theorem dX5_takes_18 : decode cX5_takes 18 = .ok (.aload_n 0, 1) := by decide +kernel
theorem dX5_takes_19 : decode cX5_takes 19 = .ok (.iload 6, 2) := by decide +kernel
theorem dX5_takes_21 : decode cX5_takes 21 = .ok (.iconst 3, 1) := by decide +kernel
theorem dX5_takes_22 : decode cX5_takes 22 = .ok (.invokevirtual 53, 3) := by decide +kernel
theorem dX5_takes_25 : decode cX5_takes 25 = .ok (.iload 5, 2) := by decide +kernel
theorem dX5_takes_27 : decode cX5_takes 27 = .ok (.if_icmp .ge 13, 3) := by decide +kernel
theorem dX5_takes_30 : decode cX5_takes 30 = .ok (.aload_n 0, 1) := by decide +kernel
theorem dX5_takes_31 : decode cX5_takes 31 = .ok (.iload 6, 2) := by decide +kernel
theorem dX5_takes_33 : decode cX5_takes 33 = .ok (.iconst 3, 1) := by decide +kernel
theorem dX5_takes_34 : decode cX5_takes 34 = .ok (.invokevirtual 53, 3) := by decide +kernel
theorem dX5_takes_37 : decode cX5_takes 37 = .ok (.goto 5, 3) := by decide +kernel
theorem dX5_takes_40 : decode cX5_takes 40 = .ok (.iload 5, 2) := by decide +kernel
theorem dX5_takes_42 : decode cX5_takes 42 = .ok (.istore 7, 2) := by decide +kernel
theorem dX5_takes_44 : decode cX5_takes 44 = .ok (.aload_n 0, 1) := by decide +kernel
theorem dX5_takes_45 : decode cX5_takes 45 = .ok (.iload 6, 2) := by decide +kernel
theorem dX5_takes_47 : decode cX5_takes 47 = .ok (.iconst 3, 1) := by decide +kernel
theorem dX5_takes_48 : decode cX5_takes 48 = .ok (.aload_n 0, 1) := by decide +kernel
theorem dX5_takes_49 : decode cX5_takes 49 = .ok (.iload 6, 2) := by decide +kernel
theorem dX5_takes_51 : decode cX5_takes 51 = .ok (.iconst 3, 1) := by decide +kernel
theorem dX5_takes_52 : decode cX5_takes 52 = .ok (.invokevirtual 53, 3) := by decide +kernel
theorem dX5_takes_55 : decode cX5_takes 55 = .ok (.iload 7, 2) := by decide +kernel
theorem dX5_takes_57 : decode cX5_takes 57 = .ok (.isub, 1) := by decide +kernel
theorem dX5_takes_58 : decode cX5_takes 58 = .ok (.invokevirtual 62, 3) := by decide +kernel
theorem dX5_takes_61 : decode cX5_takes 61 = .ok (.iload 5, 2) := by decide +kernel
theorem dX5_takes_63 : decode cX5_takes 63 = .ok (.iload 7, 2) := by decide +kernel
theorem dX5_takes_65 : decode cX5_takes 65 = .ok (.isub, 1) := by decide +kernel
theorem dX5_takes_66 : decode cX5_takes 66 = .ok (.istore 5, 2) := by decide +kernel
theorem dX5_takes_68 : decode cX5_takes 68 = .ok (.goto (-64), 3) := by decide +kernel
theorem dX5_takes_71 : decode cX5_takes 71 = .ok (.aload_n 0, 1) := by decide +kernel
theorem dX5_takes_72 : decode cX5_takes 72 = .ok (.invokevirtual 66, 3) := by decide +kernel
theorem dX5_takes_75 : decode cX5_takes 75 = .ok (.return_, 1) := by decide +kernel
set_option maxRecDepth 20000 in
theorem ggX5_shifts_X5_at : GoodIn wsX5_shifts wsX5_at := goodIn_r _ [5] (by decide +kernel) (by decide +kernel)
set_option maxRecDepth 20000 in
theorem gX5_shifts_X5_at : GoodIn wsX5_shifts (va_wsS RX5 69 yX5_at wsX5_at) := goodIn_app (goodIn_of _ (by decide +kernel)) ggX5_shifts_X5_at
theorem dX5_shifts_0 : decode cX5_shifts 0 = .ok (.aload_n 0, 1) := by decide +kernel
theorem dX5_shifts_1 : decode cX5_shifts 1 = .ok (.getfield 7, 3) := by decide +kernel
theorem dX5_shifts_4 : decode cX5_shifts 4 = .ok (.iload_n 1, 1) := by decide +kernel
theorem dX5_shifts_5 : decode cX5_shifts 5 = .ok (.iconst 5, 1) := by decide +kernel
theorem dX5_shifts_6 : decode cX5_shifts 6 = .ok (.invokestatic 69, 3) := by decide +kernel
theorem dX5_shifts_9 : decode cX5_shifts 9 = .ok (.dup2, 1) := by decide +kernel
theorem dX5_shifts_10 : decode cX5_shifts 10 = .ok (.iaload, 1) := by decide +kernel
theorem dX5_shifts_11 : decode cX5_shifts 11 = .ok (.iload_n 3, 1) := by decide +kernel
theorem dX5_shifts_12 : decode cX5_shifts 12 = .ok (.iadd, 1) := by decide +kernel
theorem dX5_shifts_13 : decode cX5_shifts 13 = .ok (.iastore, 1) := by decide +kernel
theorem dX5_shifts_14 : decode cX5_shifts 14 = .ok (.aload_n 0, 1) := by decide +kernel
theorem dX5_shifts_15 : decode cX5_shifts 15 = .ok (.getfield 7, 3) := by decide +kernel
theorem dX5_shifts_18 : decode cX5_shifts 18 = .ok (.iload_n 2, 1) := by decide +kernel
theorem dX5_shifts_19 : decode cX5_shifts 19 = .ok (.iconst 5, 1) := by decide +kernel
theorem dX5_shifts_20 : decode cX5_shifts 20 = .ok (.invokestatic 69, 3) := by decide +kernel
theorem dX5_shifts_23 : decode cX5_shifts 23 = .ok (.dup2, 1) := by decide +kernel
theorem dX5_shifts_24 : decode cX5_shifts 24 = .ok (.iaload, 1) := by decide +kernel
theorem dX5_shifts_25 : decode cX5_shifts 25 = .ok (.iload_n 3, 1) := by decide +kernel
theorem dX5_shifts_26 : decode cX5_shifts 26 = .ok (.isub, 1) := by decide +kernel
theorem dX5_shifts_27 : decode cX5_shifts 27 = .ok (.iastore, 1) := by decide +kernel
theorem dX5_shifts_28 : decode cX5_shifts 28 = .ok (.return_, 1) := by decide +kernel
set_option maxRecDepth 20000 in
theorem ggX5_pupil_X5_changes : GoodIn wsX5_pupil wsX5_changes := goodIn_r _ [7, 8, 9, 10, 1, 11, 12, 13, 14, 15, 16, 17, 18, 19, 20, 21, 22, 23, 24, 25, 26, 27, 28] (by decide +kernel) (by decide +kernel)
set_option maxRecDepth 20000 in
theorem gX5_pupil_X5_changes : GoodIn wsX5_pupil (wsV RX5 73 RX5 yX5_changes wsX5_changes) := goodIn_app (goodIn_of _ (by decide +kernel)) ggX5_pupil_X5_changes
theorem dX5_pupil_0 : decode cX5_pupil 0 = .ok (.aload_n 0, 1) := by decide +kernel
theorem dX5_pupil_1 : decode cX5_pupil 1 = .ok (.getfield 7, 3) := by decide +kernel
theorem dX5_pupil_4 : decode cX5_pupil 4 = .ok (.sipush 289, 3) := by decide +kernel
theorem dX5_pupil_7 : decode cX5_pupil 7 = .ok (.iaload, 1) := by decide +kernel
theorem dX5_pupil_8 : decode cX5_pupil 8 = .ok (.bipush 8, 2) := by decide +kernel
theorem dX5_pupil_10 : decode cX5_pupil 10 = .ok (.if_icmp .ne 6, 3) := by decide +kernel
theorem dX5_pupil_13 : decode cX5_pupil 13 = .ok (.ldc 72, 2) := by decide +kernel
theorem dX5_pupil_15 : decode cX5_pupil 15 = .ok (.ireturn, 1) := by decide +kernel
theorem dX5_pupil_16 : decode cX5_pupil 16 = .ok (.aload_n 0, 1) := by decide +kernel
theorem dX5_pupil_17 : decode cX5_pupil 17 = .ok (.invokevirtual 73, 3) := by decide +kernel
theorem dX5_pupil_20 : decode cX5_pupil 20 = .ok (.aload_n 0, 1) := by decide +kernel
theorem dX5_pupil_21 : decode cX5_pupil 21 = .ok (.getfield 7, 3) := by decide +kernel
theorem dX5_pupil_24 : decode cX5_pupil 24 = .ok (.sipush 289, 3) := by decide +kernel
theorem dX5_pupil_27 : decode cX5_pupil 27 = .ok (.dup2, 1) := by decide +kernel
theorem dX5_pupil_28 : decode cX5_pupil 28 = .ok (.iaload, 1) := by decide +kernel
theorem dX5_pupil_29 : decode cX5_pupil 29 = .ok (.iconst 1, 1) := by decide +kernel
theorem dX5_pupil_30 : decode cX5_pupil 30 = .ok (.iadd, 1) := by decide +kernel
theorem dX5_pupil_31 : decode cX5_pupil 31 = .ok (.iastore, 1) := by decide +kernel
theorem dX5_pupil_32 : decode cX5_pupil 32 = .ok (.aload_n 0, 1) := by decide +kernel
theorem dX5_pupil_33 : decode cX5_pupil 33 = .ok (.getfield 7, 3) := by decide +kernel
theorem dX5_pupil_36 : decode cX5_pupil 36 = .ok (.sipush 289, 3) := by decide +kernel
theorem dX5_pupil_39 : decode cX5_pupil 39 = .ok (.iaload, 1) := by decide +kernel
theorem dX5_pupil_40 : decode cX5_pupil 40 = .ok (.iconst 1, 1) := by decide +kernel
theorem dX5_pupil_41 : decode cX5_pupil 41 = .ok (.isub, 1) := by decide +kernel
theorem dX5_pupil_42 : decode cX5_pupil 42 = .ok (.ireturn, 1) := by decide +kernel
set_option maxRecDepth 20000 in
theorem ggX5_barred_X5_sumOf : GoodIn wsX5_barred wsX5_sumOf := goodIn_r _ [6, 1, 7, 8, 9, 5, 10, 14, 15, 16, 17, 18, 19, 20, 21, 22, 23, 24, 25, 26, 27, 28, 29, 30, 31] (by decide +kernel) (by decide +kernel)
set_option maxRecDepth 20000 in
theorem gX5_barred_X5_sumOf : GoodIn wsX5_barred (wsV RX5 76 RX5 yX5_sumOf wsX5_sumOf) := goodIn_app (goodIn_of _ (by decide +kernel)) ggX5_barred_X5_sumOf
set_option maxRecDepth 20000 in
theorem ggX5_barred_X5_at : GoodIn wsX5_barred wsX5_at := goodIn_r _ [13] (by decide +kernel) (by decide +kernel)
set_option maxRecDepth 20000 in
theorem gX5_barred_X5_at : GoodIn wsX5_barred (va_wsS RX5 69 yX5_at wsX5_at) := goodIn_app (goodIn_of _ (by decide +kernel)) ggX5_barred_X5_at
theorem dX5_barred_0 : decode cX5_barred 0 = .ok (.aload_n 0, 1) := by decide +kernel
theorem dX5_barred_1 : decode cX5_barred 1 = .ok (.iload_n 1, 1) := by decide +kernel
theorem dX5_barred_2 : decode cX5_barred 2 = .ok (.iconst 0, 1) := by decide +kernel
theorem dX5_barred_3 : decode cX5_barred 3 = .ok (.invokevirtual 76, 3) := by decide +kernel
theorem dX5_barred_6 : decode cX5_barred 6 = .ok (.iload_n 2, 1) := by decide +kernel
theorem dX5_barred_7 : decode cX5_barred 7 = .ok (.iadd, 1) := by decide +kernel
theorem dX5_barred_8 : decode cX5_barred 8 = .ok (.aload_n 0, 1) := by decide +kernel
theorem dX5_barred_9 : decode cX5_barred 9 = .ok (.getfield 7, 3) := by decide +kernel
theorem dX5_barred_12 : decode cX5_barred 12 = .ok (.sipush 302, 3) := by decide +kernel
theorem dX5_barred_15 : decode cX5_barred 15 = .ok (.iaload, 1) := by decide +kernel
theorem dX5_barred_16 : decode cX5_barred 16 = .ok (.if_icmp .le 5, 3) := by decide +kernel
theorem dX5_barred_19 : decode cX5_barred 19 = .ok (.iconst 1, 1) := by decide +kernel
theorem dX5_barred_20 : decode cX5_barred 20 = .ok (.ireturn, 1) := by decide +kernel
theorem dX5_barred_21 : decode cX5_barred 21 = .ok (.aload_n 0, 1) := by decide +kernel
theorem dX5_barred_22 : decode cX5_barred 22 = .ok (.getfield 7, 3) := by decide +kernel
theorem dX5_barred_25 : decode cX5_barred 25 = .ok (.iload_n 1, 1) := by decide +kernel
theorem dX5_barred_26 : decode cX5_barred 26 = .ok (.iconst 1, 1) := by decide +kernel
theorem dX5_barred_27 : decode cX5_barred 27 = .ok (.invokestatic 69, 3) := by decide +kernel
theorem dX5_barred_30 : decode cX5_barred 30 = .ok (.iaload, 1) := by decide +kernel
theorem dX5_barred_31 : decode cX5_barred 31 = .ok (.aload_n 0, 1) := by decide +kernel
theorem dX5_barred_32 : decode cX5_barred 32 = .ok (.getfield 7, 3) := by decide +kernel
theorem dX5_barred_35 : decode cX5_barred 35 = .ok (.sipush 303, 3) := by decide +kernel
theorem dX5_barred_38 : decode cX5_barred 38 = .ok (.iaload, 1) := by decide +kernel
theorem dX5_barred_39 : decode cX5_barred 39 = .ok (.if_icmp .lt 20, 3) := by decide +kernel
theorem dX5_barred_42 : decode cX5_barred 42 = .ok (.aload_n 0, 1) := by decide +kernel
theorem dX5_barred_43 : decode cX5_barred 43 = .ok (.getfield 7, 3) := by decide +kernel
theorem dX5_barred_46 : decode cX5_barred 46 = .ok (.iload_n 1, 1) := by decide +kernel
theorem dX5_barred_47 : decode cX5_barred 47 = .ok (.iconst 2, 1) := by decide +kernel
theorem dX5_barred_48 : decode cX5_barred 48 = .ok (.invokestatic 69, 3) := by decide +kernel
theorem dX5_barred_51 : decode cX5_barred 51 = .ok (.iaload, 1) := by decide +kernel
theorem dX5_barred_52 : decode cX5_barred 52 = .ok (.ifCond .ne 7, 3) := by decide +kernel
theorem dX5_barred_55 : decode cX5_barred 55 = .ok (.iconst 2, 1) := by decide +kernel
theorem dX5_barred_56 : decode cX5_barred 56 = .ok (.goto 4, 3) := by decide +kernel
theorem dX5_barred_59 : decode cX5_barred 59 = .ok (.iconst 0, 1) := by decide +kernel
theorem dX5_barred_60 : decode cX5_barred 60 = .ok (.ireturn, 1) := by decide +kernel
set_option maxRecDepth 20000 in
theorem ggX5_lend_X5_isPair : GoodIn wsX5_lend wsX5_isPair := goodIn_r _ [9, 10, 11, 12, 8, 13, 3, 14, 15, 16, 54, 55, 56, 57, 58, 59, 60, 61, 62, 63, 64, 65, 66, 67, 68, 69, 70, 71] (by decide +kernel) (by decide +kernel)
set_option maxRecDepth 20000 in
theorem gX5_lend_X5_isPair : GoodIn wsX5_lend (wsV RX5 79 RX5 yX5_isPair wsX5_isPair) := goodIn_app (goodIn_of _ (by decide +kernel)) ggX5_lend_X5_isPair
set_option maxRecDepth 20000 in
theorem ggX5_lend_X5_isKind : GoodIn wsX5_lend wsX5_isKind := goodIn_r _ [19, 14, 15, 8, 16] (by decide +kernel) (by decide +kernel)
set_option maxRecDepth 20000 in
theorem gX5_lend_X5_isKind : GoodIn wsX5_lend (va_wsS RX5 83 yX5_isKind wsX5_isKind) := goodIn_app (goodIn_of _ (by decide +kernel)) ggX5_lend_X5_isKind
set_option maxRecDepth 20000 in
theorem ggX5_lend_X5_in : GoodIn wsX5_lend wsX5_in := goodIn_r _ [16] (by decide +kernel) (by decide +kernel)
set_option maxRecDepth 20000 in
theorem gX5_lend_X5_in : GoodIn wsX5_lend (va_wsS RX5 45 yX5_in wsX5_in) := goodIn_app (goodIn_of _ (by decide +kernel)) ggX5_lend_X5_in
set_option maxRecDepth 20000 in
theorem ggX5_lend_X5_barred : GoodIn wsX5_lend wsX5_barred := goodIn_r _ [23, 3, 24, 25, 26, 8, 27, 28, 29, 30, 31, 32, 33, 34, 54, 55, 56, 57, 58, 59, 60, 61, 62, 63, 64, 65, 66, 67, 68, 69, 70, 71] (by decide +kernel) (by decide +kernel)
set_option maxRecDepth 20000 in
theorem gX5_lend_X5_barred : GoodIn wsX5_lend (wsV RX5 87 RX5 yX5_barred wsX5_barred) := goodIn_app (goodIn_of _ (by decide +kernel)) ggX5_lend_X5_barred
set_option maxRecDepth 20000 in
theorem ggX5_lend_X5_changes : GoodIn wsX5_lend wsX5_changes := goodIn_r _ [38, 39, 40, 41, 3, 54, 55, 56, 57, 58, 59, 60, 61, 62, 63, 64, 65, 66, 67, 68, 69, 70, 71] (by decide +kernel) (by decide +kernel)
set_option maxRecDepth 20000 in
theorem gX5_lend_X5_changes : GoodIn wsX5_lend (wsV RX5 73 RX5 yX5_changes wsX5_changes) := goodIn_app (goodIn_of _ (by decide +kernel)) ggX5_lend_X5_changes
set_option maxRecDepth 20000 in
theorem ggX5_lend_X5_lay : GoodIn wsX5_lend wsX5_lay := goodIn_r _ [45, 3, 54, 55, 56, 57, 58, 59, 60, 61, 62, 63, 64, 65, 66, 67, 68, 69, 70, 71] (by decide +kernel) (by decide +kernel)
set_option maxRecDepth 20000 in
theorem gX5_lend_X5_lay : GoodIn wsX5_lend (wsV RX5 62 RX5 yX5_lay wsX5_lay) := goodIn_app (goodIn_of _ (by decide +kernel)) ggX5_lend_X5_lay
set_option maxRecDepth 20000 in
theorem ggX5_lend_X5_shifts : GoodIn wsX5_lend wsX5_shifts := goodIn_r _ [49, 3, 32, 33, 8, 34, 54, 55, 56, 57, 58, 59, 60, 61, 62, 63, 64, 65, 66, 67, 68, 69, 70, 71] (by decide +kernel) (by decide +kernel)
set_option maxRecDepth 20000 in
theorem gX5_lend_X5_shifts : GoodIn wsX5_lend (wsV RX5 91 RX5 yX5_shifts wsX5_shifts) := goodIn_app (goodIn_of _ (by decide +kernel)) ggX5_lend_X5_shifts
set_option maxRecDepth 20000 in
theorem ggX5_lend_X5_owed : GoodIn wsX5_lend wsX5_owed := goodIn_r _ [53, 3, 28, 29, 30, 8, 31, 54, 55, 56, 57, 58, 59, 60, 61, 62, 63, 64, 65, 66, 67, 68, 69, 70, 71] (by decide +kernel) (by decide +kernel)
set_option maxRecDepth 20000 in
theorem gX5_lend_X5_owed : GoodIn wsX5_lend (wsV RX5 94 RX5 yX5_owed wsX5_owed) := goodIn_app (goodIn_of _ (by decide +kernel)) ggX5_lend_X5_owed
theorem dX5_lend_0 : decode cX5_lend 0 = .ok (.aload_n 0, 1) := by decide +kernel
theorem dX5_lend_1 : decode cX5_lend 1 = .ok (.iload_n 1, 1) := by decide +kernel
theorem dX5_lend_2 : decode cX5_lend 2 = .ok (.iload_n 2, 1) := by decide +kernel
theorem dX5_lend_3 : decode cX5_lend 3 = .ok (.invokevirtual 79, 3) := by decide +kernel
theorem dX5_lend_6 : decode cX5_lend 6 = .ok (.ifCond .eq 21, 3) := by decide +kernel
theorem dX5_lend_9 : decode cX5_lend 9 = .ok (.iload_n 3, 1) := by decide +kernel
theorem dX5_lend_10 : decode cX5_lend 10 = .ok (.invokestatic 83, 3) := by decide +kernel
theorem dX5_lend_13 : decode cX5_lend 13 = .ok (.ifCond .eq 14, 3) := by decide +kernel
theorem dX5_lend_16 : decode cX5_lend 16 = .ok (.iload 4, 2) := by decide +kernel
theorem dX5_lend_18 : decode cX5_lend 18 = .ok (.iconst 1, 1) := by decide +kernel
theorem dX5_lend_19 : decode cX5_lend 19 = .ok (.bipush 9, 2) := by decide +kernel
theorem dX5_lend_21 : decode cX5_lend 21 = .ok (.invokestatic 45, 3) := by decide +kernel
theorem dX5_lend_24 : decode cX5_lend 24 = .ok (.ifCond .ne 6, 3) := by decide +kernel
theorem dX5_lend_27 : decode cX5_lend 27 = .ok (.ldc 86, 2) := by decide +kernel
theorem dX5_lend_29 : decode cX5_lend 29 = .ok (.ireturn, 1) := by decide +kernel
theorem dX5_lend_30 : decode cX5_lend 30 = .ok (.aload_n 0, 1) := by decide +kernel
theorem dX5_lend_31 : decode cX5_lend 31 = .ok (.iload_n 1, 1) := by decide +kernel
theorem dX5_lend_32 : decode cX5_lend 32 = .ok (.iload 4, 2) := by decide +kernel
theorem dX5_lend_34 : decode cX5_lend 34 = .ok (.invokevirtual 87, 3) := by decide +kernel
theorem dX5_lend_37 : decode cX5_lend 37 = .ok (.ifCond .le 6, 3) := by decide +kernel
theorem dX5_lend_40 : decode cX5_lend 40 = .ok (.ldc 90, 2) := by decide +kernel
theorem dX5_lend_42 : decode cX5_lend 42 = .ok (.ireturn, 1) := by decide +kernel
theorem dX5_lend_43 : decode cX5_lend 43 = .ok (.aload_n 0, 1) := by decide +kernel
theorem dX5_lend_44 : decode cX5_lend 44 = .ok (.getfield 7, 3) := by decide +kernel
theorem dX5_lend_47 : decode cX5_lend 47 = .ok (.sipush 290, 3) := by decide +kernel
theorem dX5_lend_50 : decode cX5_lend 50 = .ok (.iaload, 1) := by decide +kernel
theorem dX5_lend_51 : decode cX5_lend 51 = .ok (.bipush 40, 2) := by decide +kernel
theorem dX5_lend_53 : decode cX5_lend 53 = .ok (.if_icmp .ne 6, 3) := by decide +kernel
theorem dX5_lend_56 : decode cX5_lend 56 = .ok (.ldc 72, 2) := by decide +kernel
theorem dX5_lend_58 : decode cX5_lend 58 = .ok (.ireturn, 1) := by decide +kernel
theorem dX5_lend_59 : decode cX5_lend 59 = .ok (.aload_n 0, 1) := by decide +kernel
theorem dX5_lend_60 : decode cX5_lend 60 = .ok (.invokevirtual 73, 3) := by decide +kernel
theorem dX5_lend_63 : decode cX5_lend 63 = .ok (.aload_n 0, 1) := by decide +kernel
theorem dX5_lend_64 : decode cX5_lend 64 = .ok (.getfield 7, 3) := by decide +kernel
theorem dX5_lend_67 : decode cX5_lend 67 = .ok (.sipush 290, 3) := by decide +kernel
theorem dX5_lend_70 : decode cX5_lend 70 = .ok (.iaload, 1) := by decide +kernel
theorem dX5_lend_71 : decode cX5_lend 71 = .ok (.istore 5, 2) := by decide +kernel
theorem dX5_lend_73 : decode cX5_lend 73 = .ok (.aload_n 0, 1) := by decide +kernel
theorem dX5_lend_74 : decode cX5_lend 74 = .ok (.getfield 7, 3) := by decide +kernel
theorem dX5_lend_77 : decode cX5_lend 77 = .ok (.sipush 290, 3) := by decide +kernel
theorem dX5_lend_80 : decode cX5_lend 80 = .ok (.dup2, 1) := by decide +kernel
theorem dX5_lend_81 : decode cX5_lend 81 = .ok (.iaload, 1) := by decide +kernel
theorem dX5_lend_82 : decode cX5_lend 82 = .ok (.iconst 1, 1) := by decide +kernel
theorem dX5_lend_83 : decode cX5_lend 83 = .ok (.iadd, 1) := by decide +kernel
theorem dX5_lend_84 : decode cX5_lend 84 = .ok (.iastore, 1) := by decide +kernel
theorem dX5_lend_85 : decode cX5_lend 85 = .ok (.aload_n 0, 1) := by decide +kernel
theorem dX5_lend_86 : decode cX5_lend 86 = .ok (.iload 5, 2) := by decide +kernel
theorem dX5_lend_88 : decode cX5_lend 88 = .ok (.iconst 0, 1) := by decide +kernel
theorem dX5_lend_89 : decode cX5_lend 89 = .ok (.iload_n 1, 1) := by decide +kernel
theorem dX5_lend_90 : decode cX5_lend 90 = .ok (.invokevirtual 62, 3) := by decide +kernel
theorem dX5_lend_93 : decode cX5_lend 93 = .ok (.aload_n 0, 1) := by decide +kernel
theorem dX5_lend_94 : decode cX5_lend 94 = .ok (.iload 5, 2) := by decide +kernel
theorem dX5_lend_96 : decode cX5_lend 96 = .ok (.iconst 1, 1) := by decide +kernel
theorem dX5_lend_97 : decode cX5_lend 97 = .ok (.iload_n 2, 1) := by decide +kernel
theorem dX5_lend_98 : decode cX5_lend 98 = .ok (.invokevirtual 62, 3) := by decide +kernel
theorem dX5_lend_101 : decode cX5_lend 101 = .ok (.aload_n 0, 1) := by decide +kernel
theorem dX5_lend_102 : decode cX5_lend 102 = .ok (.iload 5, 2) := by decide +kernel
theorem dX5_lend_104 : decode cX5_lend 104 = .ok (.iconst 2, 1) := by decide +kernel
theorem dX5_lend_105 : decode cX5_lend 105 = .ok (.iload_n 3, 1) := by decide +kernel
theorem dX5_lend_106 : decode cX5_lend 106 = .ok (.invokevirtual 62, 3) := by decide +kernel
theorem dX5_lend_109 : decode cX5_lend 109 = .ok (.aload_n 0, 1) := by decide +kernel
theorem dX5_lend_110 : decode cX5_lend 110 = .ok (.iload 5, 2) := by decide +kernel
theorem dX5_lend_112 : decode cX5_lend 112 = .ok (.iconst 3, 1) := by decide +kernel
theorem dX5_lend_113 : decode cX5_lend 113 = .ok (.iload 4, 2) := by decide +kernel
theorem dX5_lend_115 : decode cX5_lend 115 = .ok (.invokevirtual 62, 3) := by decide +kernel
theorem dX5_lend_118 : decode cX5_lend 118 = .ok (.aload_n 0, 1) := by decide +kernel
theorem dX5_lend_119 : decode cX5_lend 119 = .ok (.iload 5, 2) := by decide +kernel
theorem dX5_lend_121 : decode cX5_lend 121 = .ok (.iconst 4, 1) := by decide +kernel
theorem dX5_lend_122 : decode cX5_lend 122 = .ok (.iconst 0, 1) := by decide +kernel
theorem dX5_lend_123 : decode cX5_lend 123 = .ok (.invokevirtual 62, 3) := by decide +kernel
theorem dX5_lend_126 : decode cX5_lend 126 = .ok (.aload_n 0, 1) := by decide +kernel
theorem dX5_lend_127 : decode cX5_lend 127 = .ok (.iload 5, 2) := by decide +kernel
theorem dX5_lend_129 : decode cX5_lend 129 = .ok (.iconst 5, 1) := by decide +kernel
theorem dX5_lend_130 : decode cX5_lend 130 = .ok (.iconst 0, 1) := by decide +kernel
theorem dX5_lend_131 : decode cX5_lend 131 = .ok (.invokevirtual 62, 3) := by decide +kernel
theorem dX5_lend_134 : decode cX5_lend 134 = .ok (.aload_n 0, 1) := by decide +kernel
theorem dX5_lend_135 : decode cX5_lend 135 = .ok (.getfield 7, 3) := by decide +kernel
theorem dX5_lend_138 : decode cX5_lend 138 = .ok (.sipush 291, 3) := by decide +kernel
theorem dX5_lend_141 : decode cX5_lend 141 = .ok (.dup2, 1) := by decide +kernel
theorem dX5_lend_142 : decode cX5_lend 142 = .ok (.iaload, 1) := by decide +kernel
theorem dX5_lend_143 : decode cX5_lend 143 = .ok (.iload 4, 2) := by decide +kernel
theorem dX5_lend_145 : decode cX5_lend 145 = .ok (.iadd, 1) := by decide +kernel
theorem dX5_lend_146 : decode cX5_lend 146 = .ok (.iastore, 1) := by decide +kernel
theorem dX5_lend_147 : decode cX5_lend 147 = .ok (.aload_n 0, 1) := by decide +kernel
theorem dX5_lend_148 : decode cX5_lend 148 = .ok (.iload_n 2, 1) := by decide +kernel
theorem dX5_lend_149 : decode cX5_lend 149 = .ok (.iload_n 1, 1) := by decide +kernel
theorem dX5_lend_150 : decode cX5_lend 150 = .ok (.iload 4, 2) := by decide +kernel
theorem dX5_lend_152 : decode cX5_lend 152 = .ok (.invokevirtual 91, 3) := by decide +kernel
theorem dX5_lend_155 : decode cX5_lend 155 = .ok (.aload_n 0, 1) := by decide +kernel
theorem dX5_lend_156 : decode cX5_lend 156 = .ok (.iload_n 1, 1) := by decide +kernel
theorem dX5_lend_157 : decode cX5_lend 157 = .ok (.iload_n 2, 1) := by decide +kernel
theorem dX5_lend_158 : decode cX5_lend 158 = .ok (.iload_n 3, 1) := by decide +kernel
theorem dX5_lend_159 : decode cX5_lend 159 = .ok (.invokevirtual 94, 3) := by decide +kernel
theorem dX5_lend_162 : decode cX5_lend 162 = .ok (.ireturn, 1) := by decide +kernel
set_option maxRecDepth 20000 in
theorem ggX5_fulfil_X5_isPair : GoodIn wsX5_fulfil wsX5_isPair := goodIn_r _ [8, 9, 10, 11, 7, 12, 3, 13, 14, 15, 58, 59, 60, 61, 62, 63, 64, 65, 66, 67, 68, 69, 70, 71, 72, 73, 74, 75] (by decide +kernel) (by decide +kernel)
set_option maxRecDepth 20000 in
theorem gX5_fulfil_X5_isPair : GoodIn wsX5_fulfil (wsV RX5 79 RX5 yX5_isPair wsX5_isPair) := goodIn_app (goodIn_of _ (by decide +kernel)) ggX5_fulfil_X5_isPair
set_option maxRecDepth 20000 in
theorem ggX5_fulfil_X5_isKind : GoodIn wsX5_fulfil wsX5_isKind := goodIn_r _ [18, 13, 14, 7, 15] (by decide +kernel) (by decide +kernel)
set_option maxRecDepth 20000 in
theorem gX5_fulfil_X5_isKind : GoodIn wsX5_fulfil (va_wsS RX5 83 yX5_isKind wsX5_isKind) := goodIn_app (goodIn_of _ (by decide +kernel)) ggX5_fulfil_X5_isKind
set_option maxRecDepth 20000 in
theorem ggX5_fulfil_X5_in : GoodIn wsX5_fulfil wsX5_in := goodIn_r _ [15] (by decide +kernel) (by decide +kernel)
set_option maxRecDepth 20000 in
theorem gX5_fulfil_X5_in : GoodIn wsX5_fulfil (va_wsS RX5 45 yX5_in wsX5_in) := goodIn_app (goodIn_of _ (by decide +kernel)) ggX5_fulfil_X5_in
set_option maxRecDepth 20000 in
theorem ggX5_fulfil_X5_owed : GoodIn wsX5_fulfil wsX5_owed := goodIn_r _ [22, 3, 23, 24, 25, 7, 26, 58, 59, 60, 61, 62, 63, 64, 65, 66, 67, 68, 69, 70, 71, 72, 73, 74, 75] (by decide +kernel) (by decide +kernel)
set_option maxRecDepth 20000 in
theorem gX5_fulfil_X5_owed : GoodIn wsX5_fulfil (wsV RX5 94 RX5 yX5_owed wsX5_owed) := goodIn_app (goodIn_of _ (by decide +kernel)) ggX5_fulfil_X5_owed
set_option maxRecDepth 20000 in
theorem ggX5_fulfil_X5_changes : GoodIn wsX5_fulfil wsX5_changes := goodIn_r _ [30, 31, 32, 33, 3, 58, 59, 60, 61, 62, 63, 64, 65, 66, 67, 68, 69, 70, 71, 72, 73, 74, 75] (by decide +kernel) (by decide +kernel)
set_option maxRecDepth 20000 in
theorem gX5_fulfil_X5_changes : GoodIn wsX5_fulfil (wsV RX5 73 RX5 yX5_changes wsX5_changes) := goodIn_app (goodIn_of _ (by decide +kernel)) ggX5_fulfil_X5_changes
set_option maxRecDepth 20000 in
theorem ggX5_fulfil_X5_takes : GoodIn wsX5_fulfil wsX5_takes := goodIn_r _ [37, 38, 39, 40, 7, 41, 42, 3, 23, 24, 25, 26, 43, 44, 45, 46, 47, 48, 49, 50, 58, 59, 60, 61, 62, 63, 64, 65, 66, 67, 68, 69, 70, 71, 72, 73, 74, 75] (by decide +kernel) (by decide +kernel)
set_option maxRecDepth 20000 in
theorem gX5_fulfil_X5_takes : GoodIn wsX5_fulfil (wsV RX5 97 RX5 yX5_takes wsX5_takes) := goodIn_app (goodIn_of _ (by decide +kernel)) ggX5_fulfil_X5_takes
set_option maxRecDepth 20000 in
theorem ggX5_fulfil_X5_at : GoodIn wsX5_fulfil wsX5_at := goodIn_r _ [53] (by decide +kernel) (by decide +kernel)
set_option maxRecDepth 20000 in
theorem gX5_fulfil_X5_at : GoodIn wsX5_fulfil (va_wsS RX5 69 yX5_at wsX5_at) := goodIn_app (goodIn_of _ (by decide +kernel)) ggX5_fulfil_X5_at
set_option maxRecDepth 20000 in
theorem ggX5_fulfil_X5_shifts : GoodIn wsX5_fulfil wsX5_shifts := goodIn_r _ [57, 3, 51, 52, 7, 53, 58, 59, 60, 61, 62, 63, 64, 65, 66, 67, 68, 69, 70, 71, 72, 73, 74, 75] (by decide +kernel) (by decide +kernel)
set_option maxRecDepth 20000 in
theorem gX5_fulfil_X5_shifts : GoodIn wsX5_fulfil (wsV RX5 91 RX5 yX5_shifts wsX5_shifts) := goodIn_app (goodIn_of _ (by decide +kernel)) ggX5_fulfil_X5_shifts
theorem dX5_fulfil_0 : decode cX5_fulfil 0 = .ok (.aload_n 0, 1) := by decide +kernel
theorem dX5_fulfil_1 : decode cX5_fulfil 1 = .ok (.iload_n 1, 1) := by decide +kernel
theorem dX5_fulfil_2 : decode cX5_fulfil 2 = .ok (.iload_n 2, 1) := by decide +kernel
theorem dX5_fulfil_3 : decode cX5_fulfil 3 = .ok (.invokevirtual 79, 3) := by decide +kernel
theorem dX5_fulfil_6 : decode cX5_fulfil 6 = .ok (.ifCond .eq 21, 3) := by decide +kernel
theorem dX5_fulfil_9 : decode cX5_fulfil 9 = .ok (.iload_n 3, 1) := by decide +kernel
theorem dX5_fulfil_10 : decode cX5_fulfil 10 = .ok (.invokestatic 83, 3) := by decide +kernel
theorem dX5_fulfil_13 : decode cX5_fulfil 13 = .ok (.ifCond .eq 14, 3) := by decide +kernel
theorem dX5_fulfil_16 : decode cX5_fulfil 16 = .ok (.iload 4, 2) := by decide +kernel
theorem dX5_fulfil_18 : decode cX5_fulfil 18 = .ok (.iconst 1, 1) := by decide +kernel
theorem dX5_fulfil_19 : decode cX5_fulfil 19 = .ok (.bipush 9, 2) := by decide +kernel
theorem dX5_fulfil_21 : decode cX5_fulfil 21 = .ok (.invokestatic 45, 3) := by decide +kernel
theorem dX5_fulfil_24 : decode cX5_fulfil 24 = .ok (.ifCond .ne 6, 3) := by decide +kernel
theorem dX5_fulfil_27 : decode cX5_fulfil 27 = .ok (.ldc 86, 2) := by decide +kernel
theorem dX5_fulfil_29 : decode cX5_fulfil 29 = .ok (.ireturn, 1) := by decide +kernel
theorem dX5_fulfil_30 : decode cX5_fulfil 30 = .ok (.aload_n 0, 1) := by decide +kernel
theorem dX5_fulfil_31 : decode cX5_fulfil 31 = .ok (.iload_n 1, 1) := by decide +kernel
theorem dX5_fulfil_32 : decode cX5_fulfil 32 = .ok (.iload_n 2, 1) := by decide +kernel
theorem dX5_fulfil_33 : decode cX5_fulfil 33 = .ok (.iload_n 3, 1) := by decide +kernel
theorem dX5_fulfil_34 : decode cX5_fulfil 34 = .ok (.invokevirtual 94, 3) := by decide +kernel
theorem dX5_fulfil_37 : decode cX5_fulfil 37 = .ok (.iload 4, 2) := by decide +kernel
theorem dX5_fulfil_39 : decode cX5_fulfil 39 = .ok (.if_icmp .ge 6, 3) := by decide +kernel
theorem dX5_fulfil_42 : decode cX5_fulfil 42 = .ok (.ldc 90, 2) := by decide +kernel
theorem dX5_fulfil_44 : decode cX5_fulfil 44 = .ok (.ireturn, 1) := by decide +kernel
theorem dX5_fulfil_45 : decode cX5_fulfil 45 = .ok (.aload_n 0, 1) := by decide +kernel
theorem dX5_fulfil_46 : decode cX5_fulfil 46 = .ok (.invokevirtual 73, 3) := by decide +kernel
theorem dX5_fulfil_49 : decode cX5_fulfil 49 = .ok (.aload_n 0, 1) := by decide +kernel
theorem dX5_fulfil_50 : decode cX5_fulfil 50 = .ok (.iload_n 1, 1) := by decide +kernel
theorem dX5_fulfil_51 : decode cX5_fulfil 51 = .ok (.iload_n 2, 1) := by decide +kernel
theorem dX5_fulfil_52 : decode cX5_fulfil 52 = .ok (.iload_n 3, 1) := by decide +kernel
theorem dX5_fulfil_53 : decode cX5_fulfil 53 = .ok (.iload 4, 2) := by decide +kernel
theorem dX5_fulfil_55 : decode cX5_fulfil 55 = .ok (.invokevirtual 97, 3) := by decide +kernel
theorem dX5_fulfil_58 : decode cX5_fulfil 58 = .ok (.aload_n 0, 1) := by decide +kernel
theorem dX5_fulfil_59 : decode cX5_fulfil 59 = .ok (.getfield 7, 3) := by decide +kernel
theorem dX5_fulfil_62 : decode cX5_fulfil 62 = .ok (.iload_n 1, 1) := by decide +kernel
theorem dX5_fulfil_63 : decode cX5_fulfil 63 = .ok (.iconst 0, 1) := by decide +kernel
theorem dX5_fulfil_64 : decode cX5_fulfil 64 = .ok (.invokestatic 69, 3) := by decide +kernel
theorem dX5_fulfil_67 : decode cX5_fulfil 67 = .ok (.dup2, 1) := by decide +kernel
theorem dX5_fulfil_68 : decode cX5_fulfil 68 = .ok (.iaload, 1) := by decide +kernel
theorem dX5_fulfil_69 : decode cX5_fulfil 69 = .ok (.iload 4, 2) := by decide +kernel
theorem dX5_fulfil_71 : decode cX5_fulfil 71 = .ok (.iadd, 1) := by decide +kernel
theorem dX5_fulfil_72 : decode cX5_fulfil 72 = .ok (.iastore, 1) := by decide +kernel
theorem dX5_fulfil_73 : decode cX5_fulfil 73 = .ok (.aload_n 0, 1) := by decide +kernel
theorem dX5_fulfil_74 : decode cX5_fulfil 74 = .ok (.getfield 7, 3) := by decide +kernel
theorem dX5_fulfil_77 : decode cX5_fulfil 77 = .ok (.sipush 292, 3) := by decide +kernel
theorem dX5_fulfil_80 : decode cX5_fulfil 80 = .ok (.dup2, 1) := by decide +kernel
theorem dX5_fulfil_81 : decode cX5_fulfil 81 = .ok (.iaload, 1) := by decide +kernel
theorem dX5_fulfil_82 : decode cX5_fulfil 82 = .ok (.iload 4, 2) := by decide +kernel
theorem dX5_fulfil_84 : decode cX5_fulfil 84 = .ok (.iadd, 1) := by decide +kernel
theorem dX5_fulfil_85 : decode cX5_fulfil 85 = .ok (.iastore, 1) := by decide +kernel
theorem dX5_fulfil_86 : decode cX5_fulfil 86 = .ok (.aload_n 0, 1) := by decide +kernel
theorem dX5_fulfil_87 : decode cX5_fulfil 87 = .ok (.iload_n 1, 1) := by decide +kernel
theorem dX5_fulfil_88 : decode cX5_fulfil 88 = .ok (.iload_n 2, 1) := by decide +kernel
theorem dX5_fulfil_89 : decode cX5_fulfil 89 = .ok (.iload 4, 2) := by decide +kernel
theorem dX5_fulfil_91 : decode cX5_fulfil 91 = .ok (.invokevirtual 91, 3) := by decide +kernel
theorem dX5_fulfil_94 : decode cX5_fulfil 94 = .ok (.aload_n 0, 1) := by decide +kernel
theorem dX5_fulfil_95 : decode cX5_fulfil 95 = .ok (.iload_n 1, 1) := by decide +kernel
theorem dX5_fulfil_96 : decode cX5_fulfil 96 = .ok (.iload_n 2, 1) := by decide +kernel
theorem dX5_fulfil_97 : decode cX5_fulfil 97 = .ok (.iload_n 3, 1) := by decide +kernel
theorem dX5_fulfil_98 : decode cX5_fulfil 98 = .ok (.invokevirtual 94, 3) := by decide +kernel
theorem dX5_fulfil_101 : decode cX5_fulfil 101 = .ok (.ireturn, 1) := by decide +kernel
set_option maxRecDepth 20000 in
theorem ggX5_guarantee_X5_isPupil : GoodIn wsX5_guarantee wsX5_isPupil := goodIn_r _ [7, 2, 8, 9, 6, 10, 21, 22, 23, 24, 25, 26, 27, 28, 29, 30, 31, 32, 33, 34, 35, 36, 37, 38] (by decide +kernel) (by decide +kernel)
set_option maxRecDepth 20000 in
theorem gX5_guarantee_X5_isPupil : GoodIn wsX5_guarantee (wsV RX5 49 RX5 yX5_isPupil wsX5_isPupil) := goodIn_app (goodIn_of _ (by decide +kernel)) ggX5_guarantee_X5_isPupil
set_option maxRecDepth 20000 in
theorem ggX5_guarantee_X5_changes : GoodIn wsX5_guarantee wsX5_changes := goodIn_r _ [14, 15, 16, 17, 2, 21, 22, 23, 24, 25, 26, 27, 28, 29, 30, 31, 32, 33, 34, 35, 36, 37, 38] (by decide +kernel) (by decide +kernel)
set_option maxRecDepth 20000 in
theorem gX5_guarantee_X5_changes : GoodIn wsX5_guarantee (wsV RX5 73 RX5 yX5_changes wsX5_changes) := goodIn_app (goodIn_of _ (by decide +kernel)) ggX5_guarantee_X5_changes
set_option maxRecDepth 20000 in
theorem ggX5_guarantee_X5_at : GoodIn wsX5_guarantee wsX5_at := goodIn_r _ [20] (by decide +kernel) (by decide +kernel)
set_option maxRecDepth 20000 in
theorem gX5_guarantee_X5_at : GoodIn wsX5_guarantee (va_wsS RX5 69 yX5_at wsX5_at) := goodIn_app (goodIn_of _ (by decide +kernel)) ggX5_guarantee_X5_at
theorem dX5_guarantee_0 : decode cX5_guarantee 0 = .ok (.aload_n 0, 1) := by decide +kernel
theorem dX5_guarantee_1 : decode cX5_guarantee 1 = .ok (.iload_n 1, 1) := by decide +kernel
theorem dX5_guarantee_2 : decode cX5_guarantee 2 = .ok (.invokevirtual 49, 3) := by decide +kernel
theorem dX5_guarantee_5 : decode cX5_guarantee 5 = .ok (.ifCond .eq 21, 3) := by decide +kernel
theorem dX5_guarantee_8 : decode cX5_guarantee 8 = .ok (.iload_n 2, 1) := by decide +kernel
theorem dX5_guarantee_9 : decode cX5_guarantee 9 = .ok (.iconst (-1), 1) := by decide +kernel
theorem dX5_guarantee_10 : decode cX5_guarantee 10 = .ok (.if_icmp .eq 11, 3) := by decide +kernel
theorem dX5_guarantee_13 : decode cX5_guarantee 13 = .ok (.aload_n 0, 1) := by decide +kernel
theorem dX5_guarantee_14 : decode cX5_guarantee 14 = .ok (.iload_n 2, 1) := by decide +kernel
theorem dX5_guarantee_15 : decode cX5_guarantee 15 = .ok (.invokevirtual 49, 3) := by decide +kernel
theorem dX5_guarantee_18 : decode cX5_guarantee 18 = .ok (.ifCond .eq 8, 3) := by decide +kernel
theorem dX5_guarantee_21 : decode cX5_guarantee 21 = .ok (.iload_n 1, 1) := by decide +kernel
theorem dX5_guarantee_22 : decode cX5_guarantee 22 = .ok (.iload_n 2, 1) := by decide +kernel
theorem dX5_guarantee_23 : decode cX5_guarantee 23 = .ok (.if_icmp .ne 6, 3) := by decide +kernel
theorem dX5_guarantee_26 : decode cX5_guarantee 26 = .ok (.ldc 86, 2) := by decide +kernel
theorem dX5_guarantee_28 : decode cX5_guarantee 28 = .ok (.ireturn, 1) := by decide +kernel
theorem dX5_guarantee_29 : decode cX5_guarantee 29 = .ok (.aload_n 0, 1) := by decide +kernel
theorem dX5_guarantee_30 : decode cX5_guarantee 30 = .ok (.invokevirtual 73, 3) := by decide +kernel
theorem dX5_guarantee_33 : decode cX5_guarantee 33 = .ok (.aload_n 0, 1) := by decide +kernel
theorem dX5_guarantee_34 : decode cX5_guarantee 34 = .ok (.getfield 7, 3) := by decide +kernel
theorem dX5_guarantee_37 : decode cX5_guarantee 37 = .ok (.iload_n 1, 1) := by decide +kernel
theorem dX5_guarantee_38 : decode cX5_guarantee 38 = .ok (.iconst 2, 1) := by decide +kernel
theorem dX5_guarantee_39 : decode cX5_guarantee 39 = .ok (.invokestatic 69, 3) := by decide +kernel
theorem dX5_guarantee_42 : decode cX5_guarantee 42 = .ok (.iaload, 1) := by decide +kernel
theorem dX5_guarantee_43 : decode cX5_guarantee 43 = .ok (.istore_n 3, 1) := by decide +kernel
theorem dX5_guarantee_44 : decode cX5_guarantee 44 = .ok (.aload_n 0, 1) := by decide +kernel
theorem dX5_guarantee_45 : decode cX5_guarantee 45 = .ok (.getfield 7, 3) := by decide +kernel
theorem dX5_guarantee_48 : decode cX5_guarantee 48 = .ok (.iload_n 1, 1) := by decide +kernel
theorem dX5_guarantee_49 : decode cX5_guarantee 49 = .ok (.iconst 2, 1) := by decide +kernel
theorem dX5_guarantee_50 : decode cX5_guarantee 50 = .ok (.invokestatic 69, 3) := by decide +kernel
theorem dX5_guarantee_53 : decode cX5_guarantee 53 = .ok (.iload_n 2, 1) := by decide +kernel
theorem dX5_guarantee_54 : decode cX5_guarantee 54 = .ok (.iconst 1, 1) := by decide +kernel
theorem dX5_guarantee_55 : decode cX5_guarantee 55 = .ok (.iadd, 1) := by decide +kernel
theorem dX5_guarantee_56 : decode cX5_guarantee 56 = .ok (.iastore, 1) := by decide +kernel
theorem dX5_guarantee_57 : decode cX5_guarantee 57 = .ok (.iload_n 3, 1) := by decide +kernel
theorem dX5_guarantee_58 : decode cX5_guarantee 58 = .ok (.ireturn, 1) := by decide +kernel
set_option maxRecDepth 20000 in
theorem ggX5_ends_X5_of : GoodIn wsX5_ends wsX5_of := goodIn_r _ [6, 1, 18, 19, 20, 21, 22, 23, 24, 25, 26, 27, 28, 29, 30, 31, 32, 33, 34, 35] (by decide +kernel) (by decide +kernel)
set_option maxRecDepth 20000 in
theorem gX5_ends_X5_of : GoodIn wsX5_ends (wsV RX5 53 RX5 yX5_of wsX5_of) := goodIn_app (goodIn_of _ (by decide +kernel)) ggX5_ends_X5_of
set_option maxRecDepth 20000 in
theorem ggX5_ends_X5_at : GoodIn wsX5_ends wsX5_at := goodIn_r _ [9] (by decide +kernel) (by decide +kernel)
set_option maxRecDepth 20000 in
theorem gX5_ends_X5_at : GoodIn wsX5_ends (va_wsS RX5 69 yX5_at wsX5_at) := goodIn_app (goodIn_of _ (by decide +kernel)) ggX5_ends_X5_at
set_option maxRecDepth 20000 in
theorem ggX5_ends_X5_lay : GoodIn wsX5_ends wsX5_lay := goodIn_r _ [13, 1, 18, 19, 20, 21, 22, 23, 24, 25, 26, 27, 28, 29, 30, 31, 32, 33, 34, 35] (by decide +kernel) (by decide +kernel)
set_option maxRecDepth 20000 in
theorem gX5_ends_X5_lay : GoodIn wsX5_ends (wsV RX5 62 RX5 yX5_lay wsX5_lay) := goodIn_app (goodIn_of _ (by decide +kernel)) ggX5_ends_X5_lay
set_option maxRecDepth 20000 in
theorem ggX5_ends_X5_shifts : GoodIn wsX5_ends wsX5_shifts := goodIn_r _ [17, 1, 7, 8, 5, 9, 18, 19, 20, 21, 22, 23, 24, 25, 26, 27, 28, 29, 30, 31, 32, 33, 34, 35] (by decide +kernel) (by decide +kernel)
set_option maxRecDepth 20000 in
theorem gX5_ends_X5_shifts : GoodIn wsX5_ends (wsV RX5 91 RX5 yX5_shifts wsX5_shifts) := goodIn_app (goodIn_of _ (by decide +kernel)) ggX5_ends_X5_shifts
theorem dX5_ends_0 : decode cX5_ends 0 = .ok (.aload_n 0, 1) := by decide +kernel
theorem dX5_ends_1 : decode cX5_ends 1 = .ok (.iload_n 1, 1) := by decide +kernel
theorem dX5_ends_2 : decode cX5_ends 2 = .ok (.iconst 0, 1) := by decide +kernel
theorem dX5_ends_3 : decode cX5_ends 3 = .ok (.invokevirtual 53, 3) := by decide +kernel
theorem dX5_ends_6 : decode cX5_ends 6 = .ok (.istore_n 2, 1) := by decide +kernel
theorem dX5_ends_7 : decode cX5_ends 7 = .ok (.aload_n 0, 1) := by decide +kernel
theorem dX5_ends_8 : decode cX5_ends 8 = .ok (.iload_n 1, 1) := by decide +kernel
theorem dX5_ends_9 : decode cX5_ends 9 = .ok (.iconst 3, 1) := by decide +kernel
theorem dX5_ends_10 : decode cX5_ends 10 = .ok (.invokevirtual 53, 3) := by decide +kernel
theorem dX5_ends_13 : decode cX5_ends 13 = .ok (.istore_n 3, 1) := by decide +kernel
theorem dX5_ends_14 : decode cX5_ends 14 = .ok (.aload_n 0, 1) := by decide +kernel
theorem dX5_ends_15 : decode cX5_ends 15 = .ok (.getfield 7, 3) := by decide +kernel
theorem dX5_ends_18 : decode cX5_ends 18 = .ok (.iload_n 2, 1) := by decide +kernel
theorem dX5_ends_19 : decode cX5_ends 19 = .ok (.iconst 2, 1) := by decide +kernel
theorem dX5_ends_20 : decode cX5_ends 20 = .ok (.invokestatic 69, 3) := by decide +kernel
theorem dX5_ends_23 : decode cX5_ends 23 = .ok (.iaload, 1) := by decide +kernel
theorem dX5_ends_24 : decode cX5_ends 24 = .ok (.iconst 1, 1) := by decide +kernel
theorem dX5_ends_25 : decode cX5_ends 25 = .ok (.isub, 1) := by decide +kernel
theorem dX5_ends_26 : decode cX5_ends 26 = .ok (.istore 4, 2) := by decide +kernel
theorem dX5_ends_28 : decode cX5_ends 28 = .ok (.iload 4, 2) := by decide +kernel
theorem dX5_ends_30 : decode cX5_ends 30 = .ok (.ifCond .lt 82, 3) := by decide +kernel
theorem dX5_ends_33 : decode cX5_ends 33 = .ok (.iload 4, 2) := by decide +kernel
theorem dX5_ends_35 : decode cX5_ends 35 = .ok (.aload_n 0, 1) := by decide +kernel
theorem dX5_ends_36 : decode cX5_ends 36 = .ok (.iload_n 1, 1) := by decide +kernel
theorem dX5_ends_37 : decode cX5_ends 37 = .ok (.iconst 1, 1) := by decide +kernel
theorem dX5_ends_38 : decode cX5_ends 38 = .ok (.invokevirtual 53, 3) := by decide +kernel
theorem dX5_ends_41 : decode cX5_ends 41 = .ok (.if_icmp .eq 71, 3) := by decide +kernel
theorem dX5_ends_44 : decode cX5_ends 44 = .ok (.aload_n 0, 1) := by decide +kernel
theorem dX5_ends_45 : decode cX5_ends 45 = .ok (.iload_n 1, 1) := by decide +kernel
theorem dX5_ends_46 : decode cX5_ends 46 = .ok (.iconst 5, 1) := by decide +kernel
theorem dX5_ends_47 : decode cX5_ends 47 = .ok (.invokevirtual 53, 3) := by decide +kernel
theorem dX5_ends_50 : decode cX5_ends 50 = .ok (.ifCond .ne 62, 3) := by decide +kernel
theorem dX5_ends_53 : decode cX5_ends 53 = .ok (.aload_n 0, 1) := by decide +kernel
theorem dX5_ends_54 : decode cX5_ends 54 = .ok (.iload_n 1, 1) := by decide +kernel
theorem dX5_ends_55 : decode cX5_ends 55 = .ok (.iconst 0, 1) := by decide +kernel
theorem dX5_ends_56 : decode cX5_ends 56 = .ok (.iload 4, 2) := by decide +kernel
theorem dX5_ends_58 : decode cX5_ends 58 = .ok (.invokevirtual 62, 3) := by decide +kernel
theorem dX5_ends_61 : decode cX5_ends 61 = .ok (.aload_n 0, 1) := by decide +kernel
theorem dX5_ends_62 : decode cX5_ends 62 = .ok (.iload_n 1, 1) := by decide +kernel
theorem dX5_ends_63 : decode cX5_ends 63 = .ok (.iconst 4, 1) := by decide +kernel
theorem dX5_ends_64 : decode cX5_ends 64 = .ok (.iconst 0, 1) := by decide +kernel
theorem dX5_ends_65 : decode cX5_ends 65 = .ok (.invokevirtual 62, 3) := by decide +kernel
theorem dX5_ends_68 : decode cX5_ends 68 = .ok (.aload_n 0, 1) := by decide +kernel
theorem dX5_ends_69 : decode cX5_ends 69 = .ok (.iload_n 1, 1) := by decide +kernel
theorem dX5_ends_70 : decode cX5_ends 70 = .ok (.iconst 5, 1) := by decide +kernel
theorem dX5_ends_71 : decode cX5_ends 71 = .ok (.iconst 1, 1) := by decide +kernel
theorem dX5_ends_72 : decode cX5_ends 72 = .ok (.invokevirtual 62, 3) := by decide +kernel
theorem dX5_ends_75 : decode cX5_ends 75 = .ok (.aload_n 0, 1) := by decide +kernel
theorem dX5_ends_76 : decode cX5_ends 76 = .ok (.getfield 7, 3) := by decide +kernel
theorem dX5_ends_79 : decode cX5_ends 79 = .ok (.iload 4, 2) := by decide +kernel
theorem dX5_ends_81 : decode cX5_ends 81 = .ok (.iconst 3, 1) := by decide +kernel
theorem dX5_ends_82 : decode cX5_ends 82 = .ok (.invokestatic 69, 3) := by decide +kernel
theorem dX5_ends_85 : decode cX5_ends 85 = .ok (.dup2, 1) := by decide +kernel
theorem dX5_ends_86 : decode cX5_ends 86 = .ok (.iaload, 1) := by decide +kernel
theorem dX5_ends_87 : decode cX5_ends 87 = .ok (.iload_n 3, 1) := by decide +kernel
theorem dX5_ends_88 : decode cX5_ends 88 = .ok (.iadd, 1) := by decide +kernel
theorem dX5_ends_89 : decode cX5_ends 89 = .ok (.iastore, 1) := by decide +kernel
theorem dX5_ends_90 : decode cX5_ends 90 = .ok (.aload_n 0, 1) := by decide +kernel
theorem dX5_ends_91 : decode cX5_ends 91 = .ok (.getfield 7, 3) := by decide +kernel
theorem dX5_ends_94 : decode cX5_ends 94 = .ok (.sipush 295, 3) := by decide +kernel
theorem dX5_ends_97 : decode cX5_ends 97 = .ok (.dup2, 1) := by decide +kernel
theorem dX5_ends_98 : decode cX5_ends 98 = .ok (.iaload, 1) := by decide +kernel
theorem dX5_ends_99 : decode cX5_ends 99 = .ok (.iload_n 3, 1) := by decide +kernel
theorem dX5_ends_100 : decode cX5_ends 100 = .ok (.iadd, 1) := by decide +kernel
theorem dX5_ends_101 : decode cX5_ends 101 = .ok (.iastore, 1) := by decide +kernel
theorem dX5_ends_102 : decode cX5_ends 102 = .ok (.aload_n 0, 1) := by decide +kernel
theorem dX5_ends_103 : decode cX5_ends 103 = .ok (.iload_n 2, 1) := by decide +kernel
theorem dX5_ends_104 : decode cX5_ends 104 = .ok (.iload 4, 2) := by decide +kernel
theorem dX5_ends_106 : decode cX5_ends 106 = .ok (.iload_n 3, 1) := by decide +kernel
theorem dX5_ends_107 : decode cX5_ends 107 = .ok (.invokevirtual 91, 3) := by decide +kernel
theorem dX5_ends_110 : decode cX5_ends 110 = .ok (.iconst 0, 1) := by decide +kernel
theorem dX5_ends_111 : decode cX5_ends 111 = .ok (.ireturn, 1) := by decide +kernel
theorem dX5_ends_112 : decode cX5_ends 112 = .ok (.aload_n 0, 1) := by decide +kernel
theorem dX5_ends_113 : decode cX5_ends 113 = .ok (.getfield 7, 3) := by decide +kernel
theorem dX5_ends_116 : decode cX5_ends 116 = .ok (.iload_n 2, 1) := by decide +kernel
theorem dX5_ends_117 : decode cX5_ends 117 = .ok (.iconst 1, 1) := by decide +kernel
theorem dX5_ends_118 : decode cX5_ends 118 = .ok (.invokestatic 69, 3) := by decide +kernel
theorem dX5_ends_121 : decode cX5_ends 121 = .ok (.dup2, 1) := by decide +kernel
theorem dX5_ends_122 : decode cX5_ends 122 = .ok (.iaload, 1) := by decide +kernel
theorem dX5_ends_123 : decode cX5_ends 123 = .ok (.iload_n 3, 1) := by decide +kernel
theorem dX5_ends_124 : decode cX5_ends 124 = .ok (.iadd, 1) := by decide +kernel
theorem dX5_ends_125 : decode cX5_ends 125 = .ok (.iastore, 1) := by decide +kernel
theorem dX5_ends_126 : decode cX5_ends 126 = .ok (.aload_n 0, 1) := by decide +kernel
theorem dX5_ends_127 : decode cX5_ends 127 = .ok (.getfield 7, 3) := by decide +kernel
theorem dX5_ends_130 : decode cX5_ends 130 = .ok (.sipush 293, 3) := by decide +kernel
theorem dX5_ends_133 : decode cX5_ends 133 = .ok (.dup2, 1) := by decide +kernel
theorem dX5_ends_134 : decode cX5_ends 134 = .ok (.iaload, 1) := by decide +kernel
theorem dX5_ends_135 : decode cX5_ends 135 = .ok (.iload_n 3, 1) := by decide +kernel
theorem dX5_ends_136 : decode cX5_ends 136 = .ok (.iadd, 1) := by decide +kernel
theorem dX5_ends_137 : decode cX5_ends 137 = .ok (.iastore, 1) := by decide +kernel
theorem dX5_ends_138 : decode cX5_ends 138 = .ok (.aload_n 0, 1) := by decide +kernel
theorem dX5_ends_139 : decode cX5_ends 139 = .ok (.iload_n 2, 1) := by decide +kernel
theorem dX5_ends_140 : decode cX5_ends 140 = .ok (.aload_n 0, 1) := by decide +kernel
theorem dX5_ends_141 : decode cX5_ends 141 = .ok (.iload_n 1, 1) := by decide +kernel
theorem dX5_ends_142 : decode cX5_ends 142 = .ok (.iconst 1, 1) := by decide +kernel
theorem dX5_ends_143 : decode cX5_ends 143 = .ok (.invokevirtual 53, 3) := by decide +kernel
theorem dX5_ends_146 : decode cX5_ends 146 = .ok (.iload_n 3, 1) := by decide +kernel
theorem dX5_ends_147 : decode cX5_ends 147 = .ok (.invokevirtual 91, 3) := by decide +kernel
theorem dX5_ends_150 : decode cX5_ends 150 = .ok (.aload_n 0, 1) := by decide +kernel
theorem dX5_ends_151 : decode cX5_ends 151 = .ok (.iload_n 1, 1) := by decide +kernel
theorem dX5_ends_152 : decode cX5_ends 152 = .ok (.iconst 3, 1) := by decide +kernel
theorem dX5_ends_153 : decode cX5_ends 153 = .ok (.iconst 0, 1) := by decide +kernel
theorem dX5_ends_154 : decode cX5_ends 154 = .ok (.invokevirtual 62, 3) := by decide +kernel
theorem dX5_ends_157 : decode cX5_ends 157 = .ok (.iload_n 3, 1) := by decide +kernel
theorem dX5_ends_158 : decode cX5_ends 158 = .ok (.ireturn, 1) := by decide +kernel
set_option maxRecDepth 20000 in
theorem ggX5_week_X5_of : GoodIn wsX5_week wsX5_of := goodIn_r _ [6, 1, 26, 27, 28, 29, 30, 31, 32, 33, 34, 35, 36, 37, 38, 39, 40, 41, 42, 43] (by decide +kernel) (by decide +kernel)
set_option maxRecDepth 20000 in
theorem gX5_week_X5_of : GoodIn wsX5_week (wsV RX5 53 RX5 yX5_of wsX5_of) := goodIn_app (goodIn_of _ (by decide +kernel)) ggX5_week_X5_of
set_option maxRecDepth 20000 in
theorem ggX5_week_X5_lay : GoodIn wsX5_week wsX5_lay := goodIn_r _ [10, 1, 26, 27, 28, 29, 30, 31, 32, 33, 34, 35, 36, 37, 38, 39, 40, 41, 42, 43] (by decide +kernel) (by decide +kernel)
set_option maxRecDepth 20000 in
theorem gX5_week_X5_lay : GoodIn wsX5_week (wsV RX5 62 RX5 yX5_lay wsX5_lay) := goodIn_app (goodIn_of _ (by decide +kernel)) ggX5_week_X5_lay
set_option maxRecDepth 20000 in
theorem ggX5_week_X5_ends : GoodIn wsX5_week wsX5_ends := goodIn_r _ [14, 1, 2, 3, 4, 5, 6, 15, 16, 17, 7, 8, 9, 10, 18, 19, 20, 21, 26, 27, 28, 29, 30, 31, 32, 33, 34, 35, 36, 37, 38, 39, 40, 41, 42, 43] (by decide +kernel) (by decide +kernel)
set_option maxRecDepth 20000 in
theorem gX5_week_X5_ends : GoodIn wsX5_week (wsV RX5 101 RX5 yX5_ends wsX5_ends) := goodIn_app (goodIn_of _ (by decide +kernel)) ggX5_week_X5_ends
set_option maxRecDepth 20000 in
theorem ggX5_week_X5_dropsEmpty : GoodIn wsX5_week wsX5_dropsEmpty := goodIn_r _ [25, 1, 2, 3, 4, 5, 6, 26, 27, 28, 29, 30, 31, 32, 33, 34, 35, 36, 37, 38, 39, 40, 41, 42, 43] (by decide +kernel) (by decide +kernel)
set_option maxRecDepth 20000 in
theorem gX5_week_X5_dropsEmpty : GoodIn wsX5_week (wsV RX5 66 RX5 yX5_dropsEmpty wsX5_dropsEmpty) := goodIn_app (goodIn_of _ (by decide +kernel)) ggX5_week_X5_dropsEmpty
theorem dX5_week_0 : decode cX5_week 0 = .ok (.aload_n 0, 1) := by decide +kernel
theorem dX5_week_1 : decode cX5_week 1 = .ok (.getfield 7, 3) := by decide +kernel
theorem dX5_week_4 : decode cX5_week 4 = .ok (.sipush 288, 3) := by decide +kernel
theorem dX5_week_7 : decode cX5_week 7 = .ok (.dup2, 1) := by decide +kernel
theorem dX5_week_8 : decode cX5_week 8 = .ok (.iaload, 1) := by decide +kernel
theorem dX5_week_9 : decode cX5_week 9 = .ok (.iconst 1, 1) := by decide +kernel
theorem dX5_week_10 : decode cX5_week 10 = .ok (.iadd, 1) := by decide +kernel
theorem dX5_week_11 : decode cX5_week 11 = .ok (.iastore, 1) := by decide +kernel
theorem dX5_week_12 : decode cX5_week 12 = .ok (.aload_n 0, 1) := by decide +kernel
theorem dX5_week_13 : decode cX5_week 13 = .ok (.getfield 7, 3) := by decide +kernel
theorem dX5_week_16 : decode cX5_week 16 = .ok (.sipush 297, 3) := by decide +kernel
theorem dX5_week_19 : decode cX5_week 19 = .ok (.iaload, 1) := by decide +kernel
theorem dX5_week_20 : decode cX5_week 20 = .ok (.iconst 1, 1) := by decide +kernel
theorem dX5_week_21 : decode cX5_week 21 = .ok (.if_icmp .ne 5, 3) := by decide +kernel
theorem dX5_week_24 : decode cX5_week 24 = .ok (.iconst 0, 1) := by decide +kernel
theorem dX5_week_25 : decode cX5_week 25 = .ok (.ireturn, 1) := by decide +kernel
theorem dX5_week_26 : decode cX5_week 26 = .ok (.iconst 0, 1) := by decide +kernel
theorem dX5_week_27 : decode cX5_week 27 = .ok (.istore_n 1, 1) := by decide +kernel
theorem dX5_week_28 : decode cX5_week 28 = .ok (.iconst 0, 1) := by decide +kernel
theorem dX5_week_29 : decode cX5_week 29 = .ok (.istore_n 2, 1) := by decide +kernel
theorem dX5_week_30 : decode cX5_week 30 = .ok (.iload_n 2, 1) := by decide +kernel
theorem dX5_week_31 : decode cX5_week 31 = .ok (.aload_n 0, 1) := by decide +kernel
theorem dX5_week_32 : decode cX5_week 32 = .ok (.getfield 7, 3) := by decide +kernel
theorem dX5_week_35 : decode cX5_week 35 = .ok (.sipush 290, 3) := by decide +kernel
theorem dX5_week_38 : decode cX5_week 38 = .ok (.iaload, 1) := by decide +kernel
theorem dX5_week_39 : decode cX5_week 39 = .ok (.if_icmp .ge 23, 3) := by decide +kernel
theorem dX5_week_42 : decode cX5_week 42 = .ok (.aload_n 0, 1) := by decide +kernel
theorem dX5_week_43 : decode cX5_week 43 = .ok (.iload_n 2, 1) := by decide +kernel
theorem dX5_week_44 : decode cX5_week 44 = .ok (.iconst 4, 1) := by decide +kernel
theorem dX5_week_45 : decode cX5_week 45 = .ok (.aload_n 0, 1) := by decide +kernel
theorem dX5_week_46 : decode cX5_week 46 = .ok (.iload_n 2, 1) := by decide +kernel
theorem dX5_week_47 : decode cX5_week 47 = .ok (.iconst 4, 1) := by decide +kernel
theorem dX5_week_48 : decode cX5_week 48 = .ok (.invokevirtual 53, 3) := by decide +kernel
theorem dX5_week_51 : decode cX5_week 51 = .ok (.iconst 1, 1) := by decide +kernel
theorem dX5_week_52 : decode cX5_week 52 = .ok (.iadd, 1) := by decide +kernel
theorem dX5_week_53 : decode cX5_week 53 = .ok (.invokevirtual 62, 3) := by decide +kernel
theorem dX5_week_56 : decode cX5_week 56 = .ok (.iinc 2 1, 3) := by decide +kernel
theorem dX5_week_59 : decode cX5_week 59 = .ok (.goto (-29), 3) := by decide +kernel
theorem dX5_week_62 : decode cX5_week 62 = .ok (.iconst 0, 1) := by decide +kernel
theorem dX5_week_63 : decode cX5_week 63 = .ok (.istore_n 2, 1) := by decide +kernel
theorem dX5_week_64 : decode cX5_week 64 = .ok (.iload_n 2, 1) := by decide +kernel
theorem dX5_week_65 : decode cX5_week 65 = .ok (.aload_n 0, 1) := by decide +kernel
theorem dX5_week_66 : decode cX5_week 66 = .ok (.getfield 7, 3) := by decide +kernel
theorem dX5_week_69 : decode cX5_week 69 = .ok (.sipush 290, 3) := by decide +kernel
theorem dX5_week_72 : decode cX5_week 72 = .ok (.iaload, 1) := by decide +kernel
theorem dX5_week_73 : decode cX5_week 73 = .ok (.if_icmp .ge 45, 3) := by decide +kernel
theorem dX5_week_76 : decode cX5_week 76 = .ok (.iload_n 1, 1) := by decide +kernel
theorem dX5_week_77 : decode cX5_week 77 = .ok (.aload_n 0, 1) := by decide +kernel
theorem dX5_week_78 : decode cX5_week 78 = .ok (.iload_n 2, 1) := by decide +kernel
theorem dX5_week_79 : decode cX5_week 79 = .ok (.iconst 4, 1) := by decide +kernel
theorem dX5_week_80 : decode cX5_week 80 = .ok (.invokevirtual 53, 3) := by decide +kernel
theorem dX5_week_83 : decode cX5_week 83 = .ok (.aload_n 0, 1) := by decide +kernel
theorem dX5_week_84 : decode cX5_week 84 = .ok (.getfield 7, 3) := by decide +kernel
theorem dX5_week_87 : decode cX5_week 87 = .ok (.sipush 298, 3) := by decide +kernel
theorem dX5_week_90 : decode cX5_week 90 = .ok (.aload_n 0, 1) := by decide +kernel
theorem dX5_week_91 : decode cX5_week 91 = .ok (.iload_n 2, 1) := by decide +kernel
theorem dX5_week_92 : decode cX5_week 92 = .ok (.iconst 2, 1) := by decide +kernel
theorem dX5_week_93 : decode cX5_week 93 = .ok (.invokevirtual 53, 3) := by decide +kernel
theorem dX5_week_96 : decode cX5_week 96 = .ok (.iadd, 1) := by decide +kernel
theorem dX5_week_97 : decode cX5_week 97 = .ok (.iaload, 1) := by decide +kernel
theorem dX5_week_98 : decode cX5_week 98 = .ok (.if_icmp .lt 11, 3) := by decide +kernel
theorem dX5_week_101 : decode cX5_week 101 = .ok (.aload_n 0, 1) := by decide +kernel
theorem dX5_week_102 : decode cX5_week 102 = .ok (.iload_n 2, 1) := by decide +kernel
theorem dX5_week_103 : decode cX5_week 103 = .ok (.invokevirtual 101, 3) := by decide +kernel
theorem dX5_week_106 : decode cX5_week 106 = .ok (.goto 4, 3) := by decide +kernel
theorem dX5_week_109 : decode cX5_week 109 = .ok (.iconst 0, 1) := by decide +kernel
theorem dX5_week_110 : decode cX5_week 110 = .ok (.iadd, 1) := by decide +kernel
theorem dX5_week_111 : decode cX5_week 111 = .ok (.istore_n 1, 1) := by decide +kernel
theorem dX5_week_112 : decode cX5_week 112 = .ok (.iinc 2 1, 3) := by decide +kernel
theorem dX5_week_115 : decode cX5_week 115 = .ok (.goto (-51), 3) := by decide +kernel
theorem dX5_week_118 : decode cX5_week 118 = .ok (.aload_n 0, 1) := by decide +kernel
theorem dX5_week_119 : decode cX5_week 119 = .ok (.invokevirtual 66, 3) := by decide +kernel
theorem dX5_week_122 : decode cX5_week 122 = .ok (.iload_n 1, 1) := by decide +kernel
theorem dX5_week_123 : decode cX5_week 123 = .ok (.ireturn, 1) := by decide +kernel
set_option maxRecDepth 20000 in
theorem ggX5_weeks_X5_in : GoodIn wsX5_weeks wsX5_in := goodIn_r _ [7] (by decide +kernel) (by decide +kernel)
set_option maxRecDepth 20000 in
theorem gX5_weeks_X5_in : GoodIn wsX5_weeks (va_wsS RX5 45 yX5_in wsX5_in) := goodIn_app (goodIn_of _ (by decide +kernel)) ggX5_weeks_X5_in
set_option maxRecDepth 20000 in
theorem ggX5_weeks_X5_changes : GoodIn wsX5_weeks wsX5_changes := goodIn_r _ [11, 12, 13, 14, 2, 42, 43, 44, 45, 46, 47, 48, 49, 50, 51, 52, 53, 54, 55, 56, 57, 58, 59] (by decide +kernel) (by decide +kernel)
set_option maxRecDepth 20000 in
theorem gX5_weeks_X5_changes : GoodIn wsX5_weeks (wsV RX5 73 RX5 yX5_changes wsX5_changes) := goodIn_app (goodIn_of _ (by decide +kernel)) ggX5_weeks_X5_changes
set_option maxRecDepth 20000 in
theorem ggX5_weeks_X5_week : GoodIn wsX5_weeks wsX5_week := goodIn_r _ [18, 2, 19, 20, 21, 6, 22, 23, 24, 25, 26, 27, 28, 29, 30, 31, 32, 33, 34, 35, 36, 37, 38, 39, 40, 41, 42, 43, 44, 45, 46, 47, 48, 49, 50, 51, 52, 53, 54, 55, 56, 57, 58, 59] (by decide +kernel) (by decide +kernel)
set_option maxRecDepth 20000 in
theorem gX5_weeks_X5_week : GoodIn wsX5_weeks (wsV RX5 105 RX5 yX5_week wsX5_week) := goodIn_app (goodIn_of _ (by decide +kernel)) ggX5_weeks_X5_week
theorem dX5_weeks_0 : decode cX5_weeks 0 = .ok (.iload_n 1, 1) := by decide +kernel
theorem dX5_weeks_1 : decode cX5_weeks 1 = .ok (.iconst 1, 1) := by decide +kernel
theorem dX5_weeks_2 : decode cX5_weeks 2 = .ok (.bipush 20, 2) := by decide +kernel
theorem dX5_weeks_4 : decode cX5_weeks 4 = .ok (.invokestatic 45, 3) := by decide +kernel
theorem dX5_weeks_7 : decode cX5_weeks 7 = .ok (.ifCond .ne 6, 3) := by decide +kernel
theorem dX5_weeks_10 : decode cX5_weeks 10 = .ok (.ldc 86, 2) := by decide +kernel
theorem dX5_weeks_12 : decode cX5_weeks 12 = .ok (.ireturn, 1) := by decide +kernel
theorem dX5_weeks_13 : decode cX5_weeks 13 = .ok (.aload_n 0, 1) := by decide +kernel
theorem dX5_weeks_14 : decode cX5_weeks 14 = .ok (.getfield 7, 3) := by decide +kernel
theorem dX5_weeks_17 : decode cX5_weeks 17 = .ok (.sipush 288, 3) := by decide +kernel
theorem dX5_weeks_20 : decode cX5_weeks 20 = .ok (.iaload, 1) := by decide +kernel
theorem dX5_weeks_21 : decode cX5_weeks 21 = .ok (.iload_n 1, 1) := by decide +kernel
theorem dX5_weeks_22 : decode cX5_weeks 22 = .ok (.iadd, 1) := by decide +kernel
theorem dX5_weeks_23 : decode cX5_weeks 23 = .ok (.sipush 999, 3) := by decide +kernel
theorem dX5_weeks_26 : decode cX5_weeks 26 = .ok (.if_icmp .le 6, 3) := by decide +kernel
theorem dX5_weeks_29 : decode cX5_weeks 29 = .ok (.ldc 72, 2) := by decide +kernel
theorem dX5_weeks_31 : decode cX5_weeks 31 = .ok (.ireturn, 1) := by decide +kernel
theorem dX5_weeks_32 : decode cX5_weeks 32 = .ok (.aload_n 0, 1) := by decide +kernel
theorem dX5_weeks_33 : decode cX5_weeks 33 = .ok (.invokevirtual 73, 3) := by decide +kernel
theorem dX5_weeks_36 : decode cX5_weeks 36 = .ok (.iconst 0, 1) := by decide +kernel
theorem dX5_weeks_37 : decode cX5_weeks 37 = .ok (.istore_n 2, 1) := by decide +kernel
theorem dX5_weeks_38 : decode cX5_weeks 38 = .ok (.iconst 0, 1) := by decide +kernel
theorem dX5_weeks_39 : decode cX5_weeks 39 = .ok (.istore_n 3, 1) := by decide +kernel
theorem dX5_weeks_40 : decode cX5_weeks 40 = .ok (.iload_n 3, 1) := by decide +kernel
theorem dX5_weeks_41 : decode cX5_weeks 41 = .ok (.iload_n 1, 1) := by decide +kernel
theorem dX5_weeks_42 : decode cX5_weeks 42 = .ok (.if_icmp .ge 16, 3) := by decide +kernel
theorem dX5_weeks_45 : decode cX5_weeks 45 = .ok (.iload_n 2, 1) := by decide +kernel
theorem dX5_weeks_46 : decode cX5_weeks 46 = .ok (.aload_n 0, 1) := by decide +kernel
theorem dX5_weeks_47 : decode cX5_weeks 47 = .ok (.invokevirtual 105, 3) := by decide +kernel
theorem dX5_weeks_50 : decode cX5_weeks 50 = .ok (.iadd, 1) := by decide +kernel
theorem dX5_weeks_51 : decode cX5_weeks 51 = .ok (.istore_n 2, 1) := by decide +kernel
theorem dX5_weeks_52 : decode cX5_weeks 52 = .ok (.iinc 3 1, 3) := by decide +kernel
theorem dX5_weeks_55 : decode cX5_weeks 55 = .ok (.goto (-15), 3) := by decide +kernel
theorem dX5_weeks_58 : decode cX5_weeks 58 = .ok (.iload_n 2, 1) := by decide +kernel
theorem dX5_weeks_59 : decode cX5_weeks 59 = .ok (.ireturn, 1) := by decide +kernel
set_option maxRecDepth 20000 in
theorem ggX5_holiday_X5_changes : GoodIn wsX5_holiday wsX5_changes := goodIn_r _ [6, 7, 8, 9, 1, 10, 11, 12, 13, 14, 15, 16, 17, 18, 19, 20, 21, 22, 23, 24, 25, 26, 27] (by decide +kernel) (by decide +kernel)
set_option maxRecDepth 20000 in
theorem gX5_holiday_X5_changes : GoodIn wsX5_holiday (wsV RX5 73 RX5 yX5_changes wsX5_changes) := goodIn_app (goodIn_of _ (by decide +kernel)) ggX5_holiday_X5_changes
theorem dX5_holiday_0 : decode cX5_holiday 0 = .ok (.aload_n 0, 1) := by decide +kernel
theorem dX5_holiday_1 : decode cX5_holiday 1 = .ok (.invokevirtual 73, 3) := by decide +kernel
theorem dX5_holiday_4 : decode cX5_holiday 4 = .ok (.aload_n 0, 1) := by decide +kernel
theorem dX5_holiday_5 : decode cX5_holiday 5 = .ok (.getfield 7, 3) := by decide +kernel
theorem dX5_holiday_8 : decode cX5_holiday 8 = .ok (.sipush 297, 3) := by decide +kernel
theorem dX5_holiday_11 : decode cX5_holiday 11 = .ok (.iaload, 1) := by decide +kernel
theorem dX5_holiday_12 : decode cX5_holiday 12 = .ok (.istore_n 2, 1) := by decide +kernel
theorem dX5_holiday_13 : decode cX5_holiday 13 = .ok (.aload_n 0, 1) := by decide +kernel
theorem dX5_holiday_14 : decode cX5_holiday 14 = .ok (.getfield 7, 3) := by decide +kernel
theorem dX5_holiday_17 : decode cX5_holiday 17 = .ok (.sipush 297, 3) := by decide +kernel
theorem dX5_holiday_20 : decode cX5_holiday 20 = .ok (.iload_n 1, 1) := by decide +kernel
theorem dX5_holiday_21 : decode cX5_holiday 21 = .ok (.ifCond .eq 7, 3) := by decide +kernel
theorem dX5_holiday_24 : decode cX5_holiday 24 = .ok (.iconst 1, 1) := by decide +kernel
theorem dX5_holiday_25 : decode cX5_holiday 25 = .ok (.goto 4, 3) := by decide +kernel
theorem dX5_holiday_28 : decode cX5_holiday 28 = .ok (.iconst 0, 1) := by decide +kernel
theorem dX5_holiday_29 : decode cX5_holiday 29 = .ok (.iastore, 1) := by decide +kernel
theorem dX5_holiday_30 : decode cX5_holiday 30 = .ok (.iload_n 2, 1) := by decide +kernel
theorem dX5_holiday_31 : decode cX5_holiday 31 = .ok (.ireturn, 1) := by decide +kernel
set_option maxRecDepth 20000 in
theorem ggX5_looks_X5_of : GoodIn wsX5_looks wsX5_of := goodIn_r _ [7, 2, 8, 9, 10, 11, 12, 13, 14, 15, 16, 17, 18, 19, 20, 21, 22, 23, 24, 25] (by decide +kernel) (by decide +kernel)
set_option maxRecDepth 20000 in
theorem gX5_looks_X5_of : GoodIn wsX5_looks (wsV RX5 53 RX5 yX5_of wsX5_of) := goodIn_app (goodIn_of _ (by decide +kernel)) ggX5_looks_X5_of
theorem dX5_looks_0 : decode cX5_looks 0 = .ok (.iconst 0, 1) := by decide +kernel
theorem dX5_looks_1 : decode cX5_looks 1 = .ok (.istore_n 2, 1) := by decide +kernel
theorem dX5_looks_2 : decode cX5_looks 2 = .ok (.iload_n 2, 1) := by decide +kernel
theorem dX5_looks_3 : decode cX5_looks 3 = .ok (.bipush 8, 2) := by decide +kernel
theorem dX5_looks_5 : decode cX5_looks 5 = .ok (.if_icmp .ge 16, 3) := by decide +kernel
theorem dX5_looks_8 : decode cX5_looks 8 = .ok (.aload_n 0, 1) := by decide +kernel
theorem dX5_looks_9 : decode cX5_looks 9 = .ok (.getfield 25, 3) := by decide +kernel
theorem dX5_looks_12 : decode cX5_looks 12 = .ok (.iload_n 2, 1) := by decide +kernel
theorem dX5_looks_13 : decode cX5_looks 13 = .ok (.iconst 0, 1) := by decide +kernel
theorem dX5_looks_14 : decode cX5_looks 14 = .ok (.iastore, 1) := by decide +kernel
theorem dX5_looks_15 : decode cX5_looks 15 = .ok (.iinc 2 1, 3) := by decide +kernel
theorem dX5_looks_18 : decode cX5_looks 18 = .ok (.goto (-16), 3) := by decide +kernel
theorem dX5_looks_21 : decode cX5_looks 21 = .ok (.iconst 0, 1) := by decide +kernel
theorem dX5_looks_22 : decode cX5_looks 22 = .ok (.istore_n 2, 1) := by decide +kernel
theorem dX5_looks_23 : decode cX5_looks 23 = .ok (.iload_n 2, 1) := by decide +kernel
theorem dX5_looks_24 : decode cX5_looks 24 = .ok (.aload_n 0, 1) := by decide +kernel
theorem dX5_looks_25 : decode cX5_looks 25 = .ok (.getfield 7, 3) := by decide +kernel
theorem dX5_looks_28 : decode cX5_looks 28 = .ok (.sipush 290, 3) := by decide +kernel
theorem dX5_looks_31 : decode cX5_looks 31 = .ok (.iaload, 1) := by decide +kernel
theorem dX5_looks_32 : decode cX5_looks 32 = .ok (.if_icmp .ge 41, 3) := by decide +kernel
theorem dX5_looks_35 : decode cX5_looks 35 = .ok (.aload_n 0, 1) := by decide +kernel
theorem dX5_looks_36 : decode cX5_looks 36 = .ok (.iload_n 2, 1) := by decide +kernel
theorem dX5_looks_37 : decode cX5_looks 37 = .ok (.iconst 2, 1) := by decide +kernel
theorem dX5_looks_38 : decode cX5_looks 38 = .ok (.invokevirtual 53, 3) := by decide +kernel
theorem dX5_looks_41 : decode cX5_looks 41 = .ok (.iload_n 1, 1) := by decide +kernel
theorem dX5_looks_42 : decode cX5_looks 42 = .ok (.if_icmp .ne 25, 3) := by decide +kernel
theorem dX5_looks_45 : decode cX5_looks 45 = .ok (.aload_n 0, 1) := by decide +kernel
theorem dX5_looks_46 : decode cX5_looks 46 = .ok (.getfield 25, 3) := by decide +kernel
theorem dX5_looks_49 : decode cX5_looks 49 = .ok (.aload_n 0, 1) := by decide +kernel
theorem dX5_looks_50 : decode cX5_looks 50 = .ok (.iload_n 2, 1) := by decide +kernel
theorem dX5_looks_51 : decode cX5_looks 51 = .ok (.iconst 0, 1) := by decide +kernel
theorem dX5_looks_52 : decode cX5_looks 52 = .ok (.invokevirtual 53, 3) := by decide +kernel
theorem dX5_looks_55 : decode cX5_looks 55 = .ok (.dup2, 1) := by decide +kernel
theorem dX5_looks_56 : decode cX5_looks 56 = .ok (.iaload, 1) := by decide +kernel
theorem dX5_looks_57 : decode cX5_looks 57 = .ok (.iconst 1, 1) := by decide +kernel
theorem dX5_looks_58 : decode cX5_looks 58 = .ok (.aload_n 0, 1) := by decide +kernel
theorem dX5_looks_59 : decode cX5_looks 59 = .ok (.iload_n 2, 1) := by decide +kernel
theorem dX5_looks_60 : decode cX5_looks 60 = .ok (.iconst 1, 1) := by decide +kernel
theorem dX5_looks_61 : decode cX5_looks 61 = .ok (.invokevirtual 53, 3) := by decide +kernel
theorem dX5_looks_64 : decode cX5_looks 64 = .ok (.ishl, 1) := by decide +kernel
theorem dX5_looks_65 : decode cX5_looks 65 = .ok (.ior, 1) := by decide +kernel
theorem dX5_looks_66 : decode cX5_looks 66 = .ok (.iastore, 1) := by decide +kernel
theorem dX5_looks_67 : decode cX5_looks 67 = .ok (.iinc 2 1, 3) := by decide +kernel
theorem dX5_looks_70 : decode cX5_looks 70 = .ok (.goto (-47), 3) := by decide +kernel
theorem dX5_looks_73 : decode cX5_looks 73 = .ok (.return_, 1) := by decide +kernel
theorem dX5_isBack_0 : decode cX5_isBack 0 = .ok (.aload_n 0, 1) := by decide +kernel
theorem dX5_isBack_1 : decode cX5_isBack 1 = .ok (.getfield 28, 3) := by decide +kernel
theorem dX5_isBack_4 : decode cX5_isBack 4 = .ok (.iconst 0, 1) := by decide +kernel
theorem dX5_isBack_5 : decode cX5_isBack 5 = .ok (.iconst 1, 1) := by decide +kernel
theorem dX5_isBack_6 : decode cX5_isBack 6 = .ok (.iload_n 1, 1) := by decide +kernel
theorem dX5_isBack_7 : decode cX5_isBack 7 = .ok (.ishl, 1) := by decide +kernel
theorem dX5_isBack_8 : decode cX5_isBack 8 = .ok (.iastore, 1) := by decide +kernel
theorem dX5_isBack_9 : decode cX5_isBack 9 = .ok (.iconst 1, 1) := by decide +kernel
theorem dX5_isBack_10 : decode cX5_isBack 10 = .ok (.istore_n 3, 1) := by decide +kernel
theorem dX5_isBack_11 : decode cX5_isBack 11 = .ok (.iload_n 3, 1) := by decide +kernel
theorem dX5_isBack_12 : decode cX5_isBack 12 = .ok (.iload_n 2, 1) := by decide +kernel
theorem dX5_isBack_13 : decode cX5_isBack 13 = .ok (.if_icmp .ge 70, 3) := by decide +kernel
theorem dX5_isBack_16 : decode cX5_isBack 16 = .ok (.aload_n 0, 1) := by decide +kernel
theorem dX5_isBack_17 : decode cX5_isBack 17 = .ok (.getfield 28, 3) := by decide +kernel
theorem dX5_isBack_20 : decode cX5_isBack 20 = .ok (.iload_n 3, 1) := by decide +kernel
theorem dX5_isBack_21 : decode cX5_isBack 21 = .ok (.iconst 0, 1) := by decide +kernel
theorem dX5_isBack_22 : decode cX5_isBack 22 = .ok (.iastore, 1) := by decide +kernel
theorem dX5_isBack_23 : decode cX5_isBack 23 = .ok (.iload_n 1, 1) := by decide +kernel
theorem dX5_isBack_24 : decode cX5_isBack 24 = .ok (.iconst 1, 1) := by decide +kernel
theorem dX5_isBack_25 : decode cX5_isBack 25 = .ok (.iadd, 1) := by decide +kernel
theorem dX5_isBack_26 : decode cX5_isBack 26 = .ok (.istore 4, 2) := by decide +kernel
theorem dX5_isBack_28 : decode cX5_isBack 28 = .ok (.iload 4, 2) := by decide +kernel
theorem dX5_isBack_30 : decode cX5_isBack 30 = .ok (.bipush 8, 2) := by decide +kernel
theorem dX5_isBack_32 : decode cX5_isBack 32 = .ok (.if_icmp .ge 45, 3) := by decide +kernel
theorem dX5_isBack_35 : decode cX5_isBack 35 = .ok (.aload_n 0, 1) := by decide +kernel
theorem dX5_isBack_36 : decode cX5_isBack 36 = .ok (.getfield 28, 3) := by decide +kernel
theorem dX5_isBack_39 : decode cX5_isBack 39 = .ok (.iload_n 3, 1) := by decide +kernel
theorem dX5_isBack_40 : decode cX5_isBack 40 = .ok (.dup2, 1) := by decide +kernel
theorem dX5_isBack_41 : decode cX5_isBack 41 = .ok (.iaload, 1) := by decide +kernel
theorem dX5_isBack_42 : decode cX5_isBack 42 = .ok (.aload_n 0, 1) := by decide +kernel
theorem dX5_isBack_43 : decode cX5_isBack 43 = .ok (.getfield 25, 3) := by decide +kernel
theorem dX5_isBack_46 : decode cX5_isBack 46 = .ok (.iload 4, 2) := by decide +kernel
theorem dX5_isBack_48 : decode cX5_isBack 48 = .ok (.iaload, 1) := by decide +kernel
theorem dX5_isBack_49 : decode cX5_isBack 49 = .ok (.aload_n 0, 1) := by decide +kernel
theorem dX5_isBack_50 : decode cX5_isBack 50 = .ok (.getfield 28, 3) := by decide +kernel
theorem dX5_isBack_53 : decode cX5_isBack 53 = .ok (.iload_n 3, 1) := by decide +kernel
theorem dX5_isBack_54 : decode cX5_isBack 54 = .ok (.iconst 1, 1) := by decide +kernel
theorem dX5_isBack_55 : decode cX5_isBack 55 = .ok (.isub, 1) := by decide +kernel
theorem dX5_isBack_56 : decode cX5_isBack 56 = .ok (.iaload, 1) := by decide +kernel
theorem dX5_isBack_57 : decode cX5_isBack 57 = .ok (.iand, 1) := by decide +kernel
theorem dX5_isBack_58 : decode cX5_isBack 58 = .ok (.ifCond .eq 10, 3) := by decide +kernel
theorem dX5_isBack_61 : decode cX5_isBack 61 = .ok (.iconst 1, 1) := by decide +kernel
theorem dX5_isBack_62 : decode cX5_isBack 62 = .ok (.iload 4, 2) := by decide +kernel
theorem dX5_isBack_64 : decode cX5_isBack 64 = .ok (.ishl, 1) := by decide +kernel
theorem dX5_isBack_65 : decode cX5_isBack 65 = .ok (.goto 4, 3) := by decide +kernel
theorem dX5_isBack_68 : decode cX5_isBack 68 = .ok (.iconst 0, 1) := by decide +kernel
theorem dX5_isBack_69 : decode cX5_isBack 69 = .ok (.ior, 1) := by decide +kernel
theorem dX5_isBack_70 : decode cX5_isBack 70 = .ok (.iastore, 1) := by decide +kernel
theorem dX5_isBack_71 : decode cX5_isBack 71 = .ok (.iinc 4 1, 3) := by decide +kernel
theorem dX5_isBack_74 : decode cX5_isBack 74 = .ok (.goto (-46), 3) := by decide +kernel
theorem dX5_isBack_77 : decode cX5_isBack 77 = .ok (.iinc 3 1, 3) := by decide +kernel
theorem dX5_isBack_80 : decode cX5_isBack 80 = .ok (.goto (-69), 3) := by decide +kernel
theorem dX5_isBack_83 : decode cX5_isBack 83 = .ok (.aload_n 0, 1) := by decide +kernel
theorem dX5_isBack_84 : decode cX5_isBack 84 = .ok (.getfield 25, 3) := by decide +kernel
theorem dX5_isBack_87 : decode cX5_isBack 87 = .ok (.iload_n 1, 1) := by decide +kernel
theorem dX5_isBack_88 : decode cX5_isBack 88 = .ok (.iaload, 1) := by decide +kernel
theorem dX5_isBack_89 : decode cX5_isBack 89 = .ok (.aload_n 0, 1) := by decide +kernel
theorem dX5_isBack_90 : decode cX5_isBack 90 = .ok (.getfield 28, 3) := by decide +kernel
theorem dX5_isBack_93 : decode cX5_isBack 93 = .ok (.iload_n 2, 1) := by decide +kernel
theorem dX5_isBack_94 : decode cX5_isBack 94 = .ok (.iconst 1, 1) := by decide +kernel
theorem dX5_isBack_95 : decode cX5_isBack 95 = .ok (.isub, 1) := by decide +kernel
theorem dX5_isBack_96 : decode cX5_isBack 96 = .ok (.iaload, 1) := by decide +kernel
theorem dX5_isBack_97 : decode cX5_isBack 97 = .ok (.iand, 1) := by decide +kernel
theorem dX5_isBack_98 : decode cX5_isBack 98 = .ok (.ifCond .eq 7, 3) := by decide +kernel
theorem dX5_isBack_101 : decode cX5_isBack 101 = .ok (.iconst 1, 1) := by decide +kernel
theorem dX5_isBack_102 : decode cX5_isBack 102 = .ok (.goto 4, 3) := by decide +kernel
theorem dX5_isBack_105 : decode cX5_isBack 105 = .ok (.iconst 0, 1) := by decide +kernel
theorem dX5_isBack_106 : decode cX5_isBack 106 = .ok (.ireturn, 1) := by decide +kernel
theorem dX5_lowest_0 : decode cX5_lowest 0 = .ok (.iconst 0, 1) := by decide +kernel
theorem dX5_lowest_1 : decode cX5_lowest 1 = .ok (.istore_n 1, 1) := by decide +kernel
theorem dX5_lowest_2 : decode cX5_lowest 2 = .ok (.iload_n 0, 1) := by decide +kernel
theorem dX5_lowest_3 : decode cX5_lowest 3 = .ok (.iload_n 1, 1) := by decide +kernel
theorem dX5_lowest_4 : decode cX5_lowest 4 = .ok (.ishr, 1) := by decide +kernel
theorem dX5_lowest_5 : decode cX5_lowest 5 = .ok (.iconst 1, 1) := by decide +kernel
theorem dX5_lowest_6 : decode cX5_lowest 6 = .ok (.iand, 1) := by decide +kernel
theorem dX5_lowest_7 : decode cX5_lowest 7 = .ok (.ifCond .ne 9, 3) := by decide +kernel
theorem dX5_lowest_10 : decode cX5_lowest 10 = .ok (.iinc 1 1, 3) := by decide +kernel
theorem dX5_lowest_13 : decode cX5_lowest 13 = .ok (.goto (-11), 3) := by decide +kernel
theorem dX5_lowest_16 : decode cX5_lowest 16 = .ok (.iload_n 1, 1) := by decide +kernel
theorem dX5_lowest_17 : decode cX5_lowest 17 = .ok (.ireturn, 1) := by decide +kernel
set_option maxRecDepth 20000 in
theorem ggX5_rings_X5_looks : GoodIn wsX5_rings wsX5_looks := goodIn_r _ [8, 2, 9, 10, 11, 12, 7, 13, 21, 22, 23, 24, 25, 26, 27, 28, 29, 30, 31, 32, 33, 34, 35, 36, 37, 38] (by decide +kernel) (by decide +kernel)
set_option maxRecDepth 20000 in
theorem gX5_rings_X5_looks : GoodIn wsX5_rings (wsV RX5 109 RX5 yX5_looks wsX5_looks) := goodIn_app (goodIn_of _ (by decide +kernel)) ggX5_rings_X5_looks
set_option maxRecDepth 20000 in
theorem ggX5_rings_X5_isBack : GoodIn wsX5_rings wsX5_isBack := goodIn_r _ [17, 3, 2, 21, 22, 23, 24, 25, 26, 27, 28, 29, 30, 31, 32, 33, 34, 35, 36, 37, 38] (by decide +kernel) (by decide +kernel)
set_option maxRecDepth 20000 in
theorem gX5_rings_X5_isBack : GoodIn wsX5_rings (wsV RX5 113 RX5 yX5_isBack wsX5_isBack) := goodIn_app (goodIn_of _ (by decide +kernel)) ggX5_rings_X5_isBack
set_option maxRecDepth 20000 in
theorem ggX5_rings_X5_lowest : GoodIn wsX5_rings wsX5_lowest := goodIn_r _ [20] (by decide +kernel) (by decide +kernel)
set_option maxRecDepth 20000 in
theorem gX5_rings_X5_lowest : GoodIn wsX5_rings (va_wsS RX5 116 yX5_lowest wsX5_lowest) := goodIn_app (goodIn_of _ (by decide +kernel)) ggX5_rings_X5_lowest
theorem dX5_rings_0 : decode cX5_rings 0 = .ok (.aload_n 0, 1) := by decide +kernel
theorem dX5_rings_1 : decode cX5_rings 1 = .ok (.iload_n 1, 1) := by decide +kernel
theorem dX5_rings_2 : decode cX5_rings 2 = .ok (.invokevirtual 109, 3) := by decide +kernel
theorem dX5_rings_5 : decode cX5_rings 5 = .ok (.iconst 2, 1) := by decide +kernel
theorem dX5_rings_6 : decode cX5_rings 6 = .ok (.istore_n 2, 1) := by decide +kernel
theorem dX5_rings_7 : decode cX5_rings 7 = .ok (.iload_n 2, 1) := by decide +kernel
theorem dX5_rings_8 : decode cX5_rings 8 = .ok (.bipush 8, 2) := by decide +kernel
theorem dX5_rings_10 : decode cX5_rings 10 = .ok (.if_icmp .gt 90, 3) := by decide +kernel
theorem dX5_rings_13 : decode cX5_rings 13 = .ok (.iconst 0, 1) := by decide +kernel
theorem dX5_rings_14 : decode cX5_rings 14 = .ok (.istore_n 3, 1) := by decide +kernel
theorem dX5_rings_15 : decode cX5_rings 15 = .ok (.iload_n 3, 1) := by decide +kernel
theorem dX5_rings_16 : decode cX5_rings 16 = .ok (.bipush 8, 2) := by decide +kernel
theorem dX5_rings_18 : decode cX5_rings 18 = .ok (.if_icmp .ge 76, 3) := by decide +kernel
theorem dX5_rings_21 : decode cX5_rings 21 = .ok (.aload_n 0, 1) := by decide +kernel
theorem dX5_rings_22 : decode cX5_rings 22 = .ok (.iload_n 3, 1) := by decide +kernel
theorem dX5_rings_23 : decode cX5_rings 23 = .ok (.iload_n 2, 1) := by decide +kernel
theorem dX5_rings_24 : decode cX5_rings 24 = .ok (.invokevirtual 113, 3) := by decide +kernel
theorem dX5_rings_27 : decode cX5_rings 27 = .ok (.ifCond .eq 61, 3) := by decide +kernel
theorem dX5_rings_30 : decode cX5_rings 30 = .ok (.aload_n 0, 1) := by decide +kernel
theorem dX5_rings_31 : decode cX5_rings 31 = .ok (.getfield 31, 3) := by decide +kernel
theorem dX5_rings_34 : decode cX5_rings 34 = .ok (.iconst 0, 1) := by decide +kernel
theorem dX5_rings_35 : decode cX5_rings 35 = .ok (.iload_n 3, 1) := by decide +kernel
theorem dX5_rings_36 : decode cX5_rings 36 = .ok (.iastore, 1) := by decide +kernel
theorem dX5_rings_37 : decode cX5_rings 37 = .ok (.iconst 1, 1) := by decide +kernel
theorem dX5_rings_38 : decode cX5_rings 38 = .ok (.istore 4, 2) := by decide +kernel
theorem dX5_rings_40 : decode cX5_rings 40 = .ok (.iload 4, 2) := by decide +kernel
theorem dX5_rings_42 : decode cX5_rings 42 = .ok (.iload_n 2, 1) := by decide +kernel
theorem dX5_rings_43 : decode cX5_rings 43 = .ok (.if_icmp .ge 43, 3) := by decide +kernel
theorem dX5_rings_46 : decode cX5_rings 46 = .ok (.aload_n 0, 1) := by decide +kernel
theorem dX5_rings_47 : decode cX5_rings 47 = .ok (.getfield 31, 3) := by decide +kernel
theorem dX5_rings_50 : decode cX5_rings 50 = .ok (.iload 4, 2) := by decide +kernel
theorem dX5_rings_52 : decode cX5_rings 52 = .ok (.aload_n 0, 1) := by decide +kernel
theorem dX5_rings_53 : decode cX5_rings 53 = .ok (.getfield 25, 3) := by decide +kernel
theorem dX5_rings_56 : decode cX5_rings 56 = .ok (.aload_n 0, 1) := by decide +kernel
theorem dX5_rings_57 : decode cX5_rings 57 = .ok (.getfield 31, 3) := by decide +kernel
theorem dX5_rings_60 : decode cX5_rings 60 = .ok (.iload 4, 2) := by decide +kernel
theorem dX5_rings_62 : decode cX5_rings 62 = .ok (.iconst 1, 1) := by decide +kernel
theorem dX5_rings_63 : decode cX5_rings 63 = .ok (.isub, 1) := by decide +kernel
theorem dX5_rings_64 : decode cX5_rings 64 = .ok (.iaload, 1) := by decide +kernel
theorem dX5_rings_65 : decode cX5_rings 65 = .ok (.iaload, 1) := by decide +kernel
theorem dX5_rings_66 : decode cX5_rings 66 = .ok (.aload_n 0, 1) := by decide +kernel
theorem dX5_rings_67 : decode cX5_rings 67 = .ok (.getfield 28, 3) := by decide +kernel
theorem dX5_rings_70 : decode cX5_rings 70 = .ok (.iload_n 2, 1) := by decide +kernel
theorem dX5_rings_71 : decode cX5_rings 71 = .ok (.iload 4, 2) := by decide +kernel
theorem dX5_rings_73 : decode cX5_rings 73 = .ok (.isub, 1) := by decide +kernel
theorem dX5_rings_74 : decode cX5_rings 74 = .ok (.iaload, 1) := by decide +kernel
theorem dX5_rings_75 : decode cX5_rings 75 = .ok (.iand, 1) := by decide +kernel
theorem dX5_rings_76 : decode cX5_rings 76 = .ok (.invokestatic 116, 3) := by decide +kernel
theorem dX5_rings_79 : decode cX5_rings 79 = .ok (.iastore, 1) := by decide +kernel
theorem dX5_rings_80 : decode cX5_rings 80 = .ok (.iinc 4 1, 3) := by decide +kernel
theorem dX5_rings_83 : decode cX5_rings 83 = .ok (.goto (-43), 3) := by decide +kernel
theorem dX5_rings_86 : decode cX5_rings 86 = .ok (.iload_n 2, 1) := by decide +kernel
theorem dX5_rings_87 : decode cX5_rings 87 = .ok (.ireturn, 1) := by decide +kernel
theorem dX5_rings_88 : decode cX5_rings 88 = .ok (.iinc 3 1, 3) := by decide +kernel
theorem dX5_rings_91 : decode cX5_rings 91 = .ok (.goto (-76), 3) := by decide +kernel
theorem dX5_rings_94 : decode cX5_rings 94 = .ok (.iinc 2 1, 3) := by decide +kernel
theorem dX5_rings_97 : decode cX5_rings 97 = .ok (.goto (-90), 3) := by decide +kernel
theorem dX5_rings_100 : decode cX5_rings 100 = .ok (.iconst 0, 1) := by decide +kernel
theorem dX5_rings_101 : decode cX5_rings 101 = .ok (.ireturn, 1) := by decide +kernel
set_option maxRecDepth 20000 in
theorem ggX5_amountOf_X5_owed : GoodIn wsX5_amountOf wsX5_owed := goodIn_r _ [6, 7, 8, 9, 10, 5, 11, 12, 13, 14, 15, 16, 17, 18, 19, 20, 21, 22, 23, 24, 25, 26, 27, 28, 29] (by decide +kernel) (by decide +kernel)
set_option maxRecDepth 20000 in
theorem gX5_amountOf_X5_owed : GoodIn wsX5_amountOf (wsV RX5 94 RX5 yX5_owed wsX5_owed) := goodIn_app (goodIn_of _ (by decide +kernel)) ggX5_amountOf_X5_owed
theorem dX5_amountOf_0 : decode cX5_amountOf 0 = .ok (.sipush 1000, 3) := by decide +kernel
theorem dX5_amountOf_3 : decode cX5_amountOf 3 = .ok (.istore_n 3, 1) := by decide +kernel
theorem dX5_amountOf_4 : decode cX5_amountOf 4 = .ok (.iconst 0, 1) := by decide +kernel
theorem dX5_amountOf_5 : decode cX5_amountOf 5 = .ok (.istore 4, 2) := by decide +kernel
theorem dX5_amountOf_7 : decode cX5_amountOf 7 = .ok (.iload 4, 2) := by decide +kernel
theorem dX5_amountOf_9 : decode cX5_amountOf 9 = .ok (.iload_n 1, 1) := by decide +kernel
theorem dX5_amountOf_10 : decode cX5_amountOf 10 = .ok (.if_icmp .ge 47, 3) := by decide +kernel
theorem dX5_amountOf_13 : decode cX5_amountOf 13 = .ok (.aload_n 0, 1) := by decide +kernel
theorem dX5_amountOf_14 : decode cX5_amountOf 14 = .ok (.aload_n 0, 1) := by decide +kernel
theorem dX5_amountOf_15 : decode cX5_amountOf 15 = .ok (.getfield 31, 3) := by decide +kernel
theorem dX5_amountOf_18 : decode cX5_amountOf 18 = .ok (.iload 4, 2) := by decide +kernel
theorem dX5_amountOf_20 : decode cX5_amountOf 20 = .ok (.iaload, 1) := by decide +kernel
theorem dX5_amountOf_21 : decode cX5_amountOf 21 = .ok (.aload_n 0, 1) := by decide +kernel
theorem dX5_amountOf_22 : decode cX5_amountOf 22 = .ok (.getfield 31, 3) := by decide +kernel
theorem dX5_amountOf_25 : decode cX5_amountOf 25 = .ok (.iload 4, 2) := by decide +kernel
theorem dX5_amountOf_27 : decode cX5_amountOf 27 = .ok (.iconst 1, 1) := by decide +kernel
theorem dX5_amountOf_28 : decode cX5_amountOf 28 = .ok (.iadd, 1) := by decide +kernel
theorem dX5_amountOf_29 : decode cX5_amountOf 29 = .ok (.iload_n 1, 1) := by decide +kernel
theorem dX5_amountOf_30 : decode cX5_amountOf 30 = .ok (.irem, 1) := by decide +kernel
theorem dX5_amountOf_31 : decode cX5_amountOf 31 = .ok (.iaload, 1) := by decide +kernel
theorem dX5_amountOf_32 : decode cX5_amountOf 32 = .ok (.iload_n 2, 1) := by decide +kernel
theorem dX5_amountOf_33 : decode cX5_amountOf 33 = .ok (.invokevirtual 94, 3) := by decide +kernel
theorem dX5_amountOf_36 : decode cX5_amountOf 36 = .ok (.istore 5, 2) := by decide +kernel
theorem dX5_amountOf_38 : decode cX5_amountOf 38 = .ok (.iload 5, 2) := by decide +kernel
theorem dX5_amountOf_40 : decode cX5_amountOf 40 = .ok (.iload_n 3, 1) := by decide +kernel
theorem dX5_amountOf_41 : decode cX5_amountOf 41 = .ok (.if_icmp .ge 8, 3) := by decide +kernel
theorem dX5_amountOf_44 : decode cX5_amountOf 44 = .ok (.iload 5, 2) := by decide +kernel
theorem dX5_amountOf_46 : decode cX5_amountOf 46 = .ok (.goto 4, 3) := by decide +kernel
theorem dX5_amountOf_49 : decode cX5_amountOf 49 = .ok (.iload_n 3, 1) := by decide +kernel
theorem dX5_amountOf_50 : decode cX5_amountOf 50 = .ok (.istore_n 3, 1) := by decide +kernel
theorem dX5_amountOf_51 : decode cX5_amountOf 51 = .ok (.iinc 4 1, 3) := by decide +kernel
theorem dX5_amountOf_54 : decode cX5_amountOf 54 = .ok (.goto (-47), 3) := by decide +kernel
theorem dX5_amountOf_57 : decode cX5_amountOf 57 = .ok (.iload_n 3, 1) := by decide +kernel
theorem dX5_amountOf_58 : decode cX5_amountOf 58 = .ok (.ireturn, 1) := by decide +kernel
set_option maxRecDepth 20000 in
theorem ggX5_clears_X5_rings : GoodIn wsX5_clears wsX5_rings := goodIn_r _ [7, 1, 8, 9, 10, 11, 12, 6, 13, 2, 14, 15, 16, 17, 18, 19, 20, 21, 22, 23, 24, 53, 54, 55, 56, 57, 58, 59, 60, 61, 62, 63, 64, 65, 66, 67, 68, 69, 70] (by decide +kernel) (by decide +kernel)
set_option maxRecDepth 20000 in
theorem gX5_clears_X5_rings : GoodIn wsX5_clears (wsV RX5 119 RX5 yX5_rings wsX5_rings) := goodIn_app (goodIn_of _ (by decide +kernel)) ggX5_clears_X5_rings
set_option maxRecDepth 20000 in
theorem ggX5_clears_X5_amountOf : GoodIn wsX5_clears wsX5_amountOf := goodIn_r _ [28, 1, 29, 30, 31, 6, 32, 2, 14, 15, 16, 17, 53, 54, 55, 56, 57, 58, 59, 60, 61, 62, 63, 64, 65, 66, 67, 68, 69, 70] (by decide +kernel) (by decide +kernel)
set_option maxRecDepth 20000 in
theorem gX5_clears_X5_amountOf : GoodIn wsX5_clears (wsV RX5 122 RX5 yX5_amountOf wsX5_amountOf) := goodIn_app (goodIn_of _ (by decide +kernel)) ggX5_clears_X5_amountOf
set_option maxRecDepth 20000 in
theorem ggX5_clears_X5_takes : GoodIn wsX5_clears wsX5_takes := goodIn_r _ [36, 37, 38, 39, 6, 40, 41, 2, 14, 15, 16, 17, 42, 43, 44, 45, 46, 47, 48, 49, 53, 54, 55, 56, 57, 58, 59, 60, 61, 62, 63, 64, 65, 66, 67, 68, 69, 70] (by decide +kernel) (by decide +kernel)
set_option maxRecDepth 20000 in
theorem gX5_clears_X5_takes : GoodIn wsX5_clears (wsV RX5 97 RX5 yX5_takes wsX5_takes) := goodIn_app (goodIn_of _ (by decide +kernel)) ggX5_clears_X5_takes
set_option maxRecDepth 20000 in
theorem ggX5_clears_X5_at : GoodIn wsX5_clears wsX5_at := goodIn_r _ [52] (by decide +kernel) (by decide +kernel)
set_option maxRecDepth 20000 in
theorem gX5_clears_X5_at : GoodIn wsX5_clears (va_wsS RX5 69 yX5_at wsX5_at) := goodIn_app (goodIn_of _ (by decide +kernel)) ggX5_clears_X5_at
theorem dX5_clears_0 : decode cX5_clears 0 = .ok (.iconst 0, 1) := by decide +kernel
theorem dX5_clears_1 : decode cX5_clears 1 = .ok (.istore_n 2, 1) := by decide +kernel
theorem dX5_clears_2 : decode cX5_clears 2 = .ok (.aload_n 0, 1) := by decide +kernel
theorem dX5_clears_3 : decode cX5_clears 3 = .ok (.iload_n 1, 1) := by decide +kernel
theorem dX5_clears_4 : decode cX5_clears 4 = .ok (.invokevirtual 119, 3) := by decide +kernel
theorem dX5_clears_7 : decode cX5_clears 7 = .ok (.istore_n 3, 1) := by decide +kernel
theorem dX5_clears_8 : decode cX5_clears 8 = .ok (.iload_n 3, 1) := by decide +kernel
theorem dX5_clears_9 : decode cX5_clears 9 = .ok (.ifCond .le 115, 3) := by decide +kernel
theorem dX5_clears_12 : decode cX5_clears 12 = .ok (.aload_n 0, 1) := by decide +kernel
theorem dX5_clears_13 : decode cX5_clears 13 = .ok (.iload_n 3, 1) := by decide +kernel
theorem dX5_clears_14 : decode cX5_clears 14 = .ok (.iload_n 1, 1) := by decide +kernel
theorem dX5_clears_15 : decode cX5_clears 15 = .ok (.invokevirtual 122, 3) := by decide +kernel
theorem dX5_clears_18 : decode cX5_clears 18 = .ok (.istore 4, 2) := by decide +kernel
theorem dX5_clears_20 : decode cX5_clears 20 = .ok (.iconst 0, 1) := by decide +kernel

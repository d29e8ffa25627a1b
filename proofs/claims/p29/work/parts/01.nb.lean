set_option maxRecDepth 20000 in
theorem ggX0_init_X4_firstOfSetting : GoodIn wsX0_init wsX4_firstOfSetting := goodIn_r _ [20] (by decide +kernel) (by decide +kernel)
set_option maxRecDepth 20000 in
theorem gX0_init_X4_firstOfSetting_n51 : GoodIn wsX0_init (wsX4_firstOfSetting) := ggX0_init_X4_firstOfSetting
set_option maxRecDepth 20000 in
theorem ggX0_init_X4_put : GoodIn wsX0_init wsX4_put := goodIn_r _ [22] (by decide +kernel) (by decide +kernel)
set_option maxRecDepth 20000 in
theorem gX0_init_X4_put_n55 : GoodIn wsX0_init (wsX4_put) := ggX0_init_X4_put
theorem dX0_init_0 : decode cX0_init 0 = .ok (.aload_n 0, 1) := by decide +kernel
theorem dX0_init_1 : decode cX0_init 1 = .ok (.invokespecial 3, 3) := by decide +kernel
theorem dX0_init_4 : decode cX0_init 4 = .ok (.aload_n 0, 1) := by decide +kernel
theorem dX0_init_5 : decode cX0_init 5 = .ok (.bipush 26, 2) := by decide +kernel
theorem dX0_init_7 : decode cX0_init 7 = .ok (.newarray .int, 2) := by decide +kernel
theorem dX0_init_9 : decode cX0_init 9 = .ok (.putfield 9, 3) := by decide +kernel
theorem dX0_init_12 : decode cX0_init 12 = .ok (.aload_n 0, 1) := by decide +kernel
theorem dX0_init_13 : decode cX0_init 13 = .ok (.bipush 8, 2) := by decide +kernel
theorem dX0_init_15 : decode cX0_init 15 = .ok (.newarray .int, 2) := by decide +kernel
theorem dX0_init_17 : decode cX0_init 17 = .ok (.putfield 15, 3) := by decide +kernel
theorem dX0_init_20 : decode cX0_init 20 = .ok (.aload_n 0, 1) := by decide +kernel
theorem dX0_init_21 : decode cX0_init 21 = .ok (.bipush 8, 2) := by decide +kernel
theorem dX0_init_23 : decode cX0_init 23 = .ok (.newarray .int, 2) := by decide +kernel
theorem dX0_init_25 : decode cX0_init 25 = .ok (.putfield 18, 3) := by decide +kernel
theorem dX0_init_28 : decode cX0_init 28 = .ok (.aload_n 0, 1) := by decide +kernel
theorem dX0_init_29 : decode cX0_init 29 = .ok (.bipush 8, 2) := by decide +kernel
theorem dX0_init_31 : decode cX0_init 31 = .ok (.newarray .int, 2) := by decide +kernel
theorem dX0_init_33 : decode cX0_init 33 = .ok (.putfield 21, 3) := by decide +kernel
theorem dX0_init_36 : decode cX0_init 36 = .ok (.aload_n 0, 1) := by decide +kernel
theorem dX0_init_37 : decode cX0_init 37 = .ok (.bipush 8, 2) := by decide +kernel
theorem dX0_init_39 : decode cX0_init 39 = .ok (.newarray .int, 2) := by decide +kernel
theorem dX0_init_41 : decode cX0_init 41 = .ok (.putfield 24, 3) := by decide +kernel
theorem dX0_init_44 : decode cX0_init 44 = .ok (.aload_n 0, 1) := by decide +kernel
theorem dX0_init_45 : decode cX0_init 45 = .ok (.bipush 8, 2) := by decide +kernel
theorem dX0_init_47 : decode cX0_init 47 = .ok (.newarray .int, 2) := by decide +kernel
theorem dX0_init_49 : decode cX0_init 49 = .ok (.putfield 27, 3) := by decide +kernel
theorem dX0_init_52 : decode cX0_init 52 = .ok (.aload_n 0, 1) := by decide +kernel
theorem dX0_init_53 : decode cX0_init 53 = .ok (.bipush 8, 2) := by decide +kernel
theorem dX0_init_55 : decode cX0_init 55 = .ok (.newarray .int, 2) := by decide +kernel
theorem dX0_init_57 : decode cX0_init 57 = .ok (.putfield 30, 3) := by decide +kernel
theorem dX0_init_60 : decode cX0_init 60 = .ok (.aload_n 0, 1) := by decide +kernel
theorem dX0_init_61 : decode cX0_init 61 = .ok (.bipush 40, 2) := by decide +kernel
theorem dX0_init_63 : decode cX0_init 63 = .ok (.newarray .int, 2) := by decide +kernel
theorem dX0_init_65 : decode cX0_init 65 = .ok (.putfield 33, 3) := by decide +kernel
theorem dX0_init_68 : decode cX0_init 68 = .ok (.aload_n 0, 1) := by decide +kernel
theorem dX0_init_69 : decode cX0_init 69 = .ok (.bipush 40, 2) := by decide +kernel
theorem dX0_init_71 : decode cX0_init 71 = .ok (.newarray .int, 2) := by decide +kernel
theorem dX0_init_73 : decode cX0_init 73 = .ok (.putfield 36, 3) := by decide +kernel
theorem dX0_init_76 : decode cX0_init 76 = .ok (.aload_n 0, 1) := by decide +kernel
theorem dX0_init_77 : decode cX0_init 77 = .ok (.bipush 40, 2) := by decide +kernel
theorem dX0_init_79 : decode cX0_init 79 = .ok (.newarray .int, 2) := by decide +kernel
theorem dX0_init_81 : decode cX0_init 81 = .ok (.putfield 39, 3) := by decide +kernel
theorem dX0_init_84 : decode cX0_init 84 = .ok (.aload_n 0, 1) := by decide +kernel
theorem dX0_init_85 : decode cX0_init 85 = .ok (.bipush 40, 2) := by decide +kernel
theorem dX0_init_87 : decode cX0_init 87 = .ok (.newarray .int, 2) := by decide +kernel
theorem dX0_init_89 : decode cX0_init 89 = .ok (.putfield 42, 3) := by decide +kernel
theorem dX0_init_92 : decode cX0_init 92 = .ok (.aload_n 0, 1) := by decide +kernel
theorem dX0_init_93 : decode cX0_init 93 = .ok (.bipush 40, 2) := by decide +kernel
theorem dX0_init_95 : decode cX0_init 95 = .ok (.newarray .int, 2) := by decide +kernel
theorem dX0_init_97 : decode cX0_init 97 = .ok (.putfield 45, 3) := by decide +kernel
theorem dX0_init_100 : decode cX0_init 100 = .ok (.aload_n 0, 1) := by decide +kernel
theorem dX0_init_101 : decode cX0_init 101 = .ok (.bipush 40, 2) := by decide +kernel
theorem dX0_init_103 : decode cX0_init 103 = .ok (.newarray .int, 2) := by decide +kernel
theorem dX0_init_105 : decode cX0_init 105 = .ok (.putfield 48, 3) := by decide +kernel
theorem dX0_init_108 : decode cX0_init 108 = .ok (.iconst 0, 1) := by decide +kernel
theorem dX0_init_109 : decode cX0_init 109 = .ok (.istore_n 1, 1) := by decide +kernel
theorem dX0_init_110 : decode cX0_init 110 = .ok (.iload_n 1, 1) := by decide +kernel
theorem dX0_init_111 : decode cX0_init 111 = .ok (.bipush 6, 2) := by decide +kernel
theorem dX0_init_113 : decode cX0_init 113 = .ok (.if_icmp .ge 24, 3) := by decide +kernel
theorem dX0_init_116 : decode cX0_init 116 = .ok (.aload_n 0, 1) := by decide +kernel
theorem dX0_init_117 : decode cX0_init 117 = .ok (.getfield 9, 3) := by decide +kernel
theorem dX0_init_120 : decode cX0_init 120 = .ok (.bipush 20, 2) := by decide +kernel
theorem dX0_init_122 : decode cX0_init 122 = .ok (.iload_n 1, 1) := by decide +kernel
theorem dX0_init_123 : decode cX0_init 123 = .ok (.iadd, 1) := by decide +kernel
theorem dX0_init_124 : decode cX0_init 124 = .ok (.iload_n 1, 1) := by decide +kernel
theorem dX0_init_125 : decode cX0_init 125 = .ok (.invokestatic 51, 3) := by decide +kernel
theorem dX0_init_128 : decode cX0_init 128 = .ok (.invokestatic 55, 3) := by decide +kernel
theorem dX0_init_131 : decode cX0_init 131 = .ok (.iinc 1 1, 3) := by decide +kernel
theorem dX0_init_134 : decode cX0_init 134 = .ok (.goto (-24), 3) := by decide +kernel
theorem dX0_init_137 : decode cX0_init 137 = .ok (.return_, 1) := by decide +kernel
set_option maxRecDepth 20000 in
theorem ggX0_copyFrom_X4_copyRow : GoodIn wsX0_copyFrom wsX4_copyRow := goodIn_r _ [16, 17, 18, 19, 20, 21, 22, 23, 24] (by decide +kernel) (by decide +kernel)
set_option maxRecDepth 20000 in
theorem gX0_copyFrom_X4_copyRow_n59 : GoodIn wsX0_copyFrom (wsX4_copyRow) := ggX0_copyFrom_X4_copyRow
theorem dX0_copyFrom_0 : decode cX0_copyFrom 0 = .ok (.aload_n 1, 1) := by decide +kernel
theorem dX0_copyFrom_1 : decode cX0_copyFrom 1 = .ok (.getfield 9, 3) := by decide +kernel
theorem dX0_copyFrom_4 : decode cX0_copyFrom 4 = .ok (.aload_n 0, 1) := by decide +kernel
theorem dX0_copyFrom_5 : decode cX0_copyFrom 5 = .ok (.getfield 9, 3) := by decide +kernel
theorem dX0_copyFrom_8 : decode cX0_copyFrom 8 = .ok (.invokestatic 59, 3) := by decide +kernel
theorem dX0_copyFrom_11 : decode cX0_copyFrom 11 = .ok (.aload_n 1, 1) := by decide +kernel
theorem dX0_copyFrom_12 : decode cX0_copyFrom 12 = .ok (.getfield 15, 3) := by decide +kernel
theorem dX0_copyFrom_15 : decode cX0_copyFrom 15 = .ok (.aload_n 0, 1) := by decide +kernel
theorem dX0_copyFrom_16 : decode cX0_copyFrom 16 = .ok (.getfield 15, 3) := by decide +kernel
theorem dX0_copyFrom_19 : decode cX0_copyFrom 19 = .ok (.invokestatic 59, 3) := by decide +kernel
theorem dX0_copyFrom_22 : decode cX0_copyFrom 22 = .ok (.aload_n 1, 1) := by decide +kernel
theorem dX0_copyFrom_23 : decode cX0_copyFrom 23 = .ok (.getfield 18, 3) := by decide +kernel
theorem dX0_copyFrom_26 : decode cX0_copyFrom 26 = .ok (.aload_n 0, 1) := by decide +kernel
theorem dX0_copyFrom_27 : decode cX0_copyFrom 27 = .ok (.getfield 18, 3) := by decide +kernel
theorem dX0_copyFrom_30 : decode cX0_copyFrom 30 = .ok (.invokestatic 59, 3) := by decide +kernel
theorem dX0_copyFrom_33 : decode cX0_copyFrom 33 = .ok (.aload_n 1, 1) := by decide +kernel
theorem dX0_copyFrom_34 : decode cX0_copyFrom 34 = .ok (.getfield 21, 3) := by decide +kernel
theorem dX0_copyFrom_37 : decode cX0_copyFrom 37 = .ok (.aload_n 0, 1) := by decide +kernel
theorem dX0_copyFrom_38 : decode cX0_copyFrom 38 = .ok (.getfield 21, 3) := by decide +kernel
theorem dX0_copyFrom_41 : decode cX0_copyFrom 41 = .ok (.invokestatic 59, 3) := by decide +kernel
theorem dX0_copyFrom_44 : decode cX0_copyFrom 44 = .ok (.aload_n 1, 1) := by decide +kernel
theorem dX0_copyFrom_45 : decode cX0_copyFrom 45 = .ok (.getfield 24, 3) := by decide +kernel
theorem dX0_copyFrom_48 : decode cX0_copyFrom 48 = .ok (.aload_n 0, 1) := by decide +kernel
theorem dX0_copyFrom_49 : decode cX0_copyFrom 49 = .ok (.getfield 24, 3) := by decide +kernel
theorem dX0_copyFrom_52 : decode cX0_copyFrom 52 = .ok (.invokestatic 59, 3) := by decide +kernel
theorem dX0_copyFrom_55 : decode cX0_copyFrom 55 = .ok (.aload_n 1, 1) := by decide +kernel
theorem dX0_copyFrom_56 : decode cX0_copyFrom 56 = .ok (.getfield 27, 3) := by decide +kernel
theorem dX0_copyFrom_59 : decode cX0_copyFrom 59 = .ok (.aload_n 0, 1) := by decide +kernel
theorem dX0_copyFrom_60 : decode cX0_copyFrom 60 = .ok (.getfield 27, 3) := by decide +kernel
theorem dX0_copyFrom_63 : decode cX0_copyFrom 63 = .ok (.invokestatic 59, 3) := by decide +kernel
theorem dX0_copyFrom_66 : decode cX0_copyFrom 66 = .ok (.aload_n 1, 1) := by decide +kernel
theorem dX0_copyFrom_67 : decode cX0_copyFrom 67 = .ok (.getfield 30, 3) := by decide +kernel
theorem dX0_copyFrom_70 : decode cX0_copyFrom 70 = .ok (.aload_n 0, 1) := by decide +kernel
theorem dX0_copyFrom_71 : decode cX0_copyFrom 71 = .ok (.getfield 30, 3) := by decide +kernel
theorem dX0_copyFrom_74 : decode cX0_copyFrom 74 = .ok (.invokestatic 59, 3) := by decide +kernel
theorem dX0_copyFrom_77 : decode cX0_copyFrom 77 = .ok (.aload_n 1, 1) := by decide +kernel
theorem dX0_copyFrom_78 : decode cX0_copyFrom 78 = .ok (.getfield 33, 3) := by decide +kernel
theorem dX0_copyFrom_81 : decode cX0_copyFrom 81 = .ok (.aload_n 0, 1) := by decide +kernel
theorem dX0_copyFrom_82 : decode cX0_copyFrom 82 = .ok (.getfield 33, 3) := by decide +kernel
theorem dX0_copyFrom_85 : decode cX0_copyFrom 85 = .ok (.invokestatic 59, 3) := by decide +kernel
theorem dX0_copyFrom_88 : decode cX0_copyFrom 88 = .ok (.aload_n 1, 1) := by decide +kernel
theorem dX0_copyFrom_89 : decode cX0_copyFrom 89 = .ok (.getfield 36, 3) := by decide +kernel
theorem dX0_copyFrom_92 : decode cX0_copyFrom 92 = .ok (.aload_n 0, 1) := by decide +kernel
theorem dX0_copyFrom_93 : decode cX0_copyFrom 93 = .ok (.getfield 36, 3) := by decide +kernel
theorem dX0_copyFrom_96 : decode cX0_copyFrom 96 = .ok (.invokestatic 59, 3) := by decide +kernel
theorem dX0_copyFrom_99 : decode cX0_copyFrom 99 = .ok (.aload_n 1, 1) := by decide +kernel
theorem dX0_copyFrom_100 : decode cX0_copyFrom 100 = .ok (.getfield 39, 3) := by decide +kernel
theorem dX0_copyFrom_103 : decode cX0_copyFrom 103 = .ok (.aload_n 0, 1) := by decide +kernel
theorem dX0_copyFrom_104 : decode cX0_copyFrom 104 = .ok (.getfield 39, 3) := by decide +kernel
theorem dX0_copyFrom_107 : decode cX0_copyFrom 107 = .ok (.invokestatic 59, 3) := by decide +kernel
theorem dX0_copyFrom_110 : decode cX0_copyFrom 110 = .ok (.aload_n 1, 1) := by decide +kernel
theorem dX0_copyFrom_111 : decode cX0_copyFrom 111 = .ok (.getfield 42, 3) := by decide +kernel
theorem dX0_copyFrom_114 : decode cX0_copyFrom 114 = .ok (.aload_n 0, 1) := by decide +kernel
theorem dX0_copyFrom_115 : decode cX0_copyFrom 115 = .ok (.getfield 42, 3) := by decide +kernel
theorem dX0_copyFrom_118 : decode cX0_copyFrom 118 = .ok (.invokestatic 59, 3) := by decide +kernel
theorem dX0_copyFrom_121 : decode cX0_copyFrom 121 = .ok (.aload_n 1, 1) := by decide +kernel
theorem dX0_copyFrom_122 : decode cX0_copyFrom 122 = .ok (.getfield 45, 3) := by decide +kernel
theorem dX0_copyFrom_125 : decode cX0_copyFrom 125 = .ok (.aload_n 0, 1) := by decide +kernel
theorem dX0_copyFrom_126 : decode cX0_copyFrom 126 = .ok (.getfield 45, 3) := by decide +kernel
theorem dX0_copyFrom_129 : decode cX0_copyFrom 129 = .ok (.invokestatic 59, 3) := by decide +kernel
theorem dX0_copyFrom_132 : decode cX0_copyFrom 132 = .ok (.aload_n 1, 1) := by decide +kernel
theorem dX0_copyFrom_133 : decode cX0_copyFrom 133 = .ok (.getfield 48, 3) := by decide +kernel
theorem dX0_copyFrom_136 : decode cX0_copyFrom 136 = .ok (.aload_n 0, 1) := by decide +kernel
theorem dX0_copyFrom_137 : decode cX0_copyFrom 137 = .ok (.getfield 48, 3) := by decide +kernel
theorem dX0_copyFrom_140 : decode cX0_copyFrom 140 = .ok (.invokestatic 59, 3) := by decide +kernel
theorem dX0_copyFrom_143 : decode cX0_copyFrom 143 = .ok (.return_, 1) := by decide +kernel
theorem dX0_number_0 : decode cX0_number 0 = .ok (.iload_n 1, 1) := by decide +kernel
theorem dX0_number_1 : decode cX0_number 1 = .ok (.ifCond .lt 21, 3) := by decide +kernel
theorem dX0_number_4 : decode cX0_number 4 = .ok (.iload_n 1, 1) := by decide +kernel
theorem dX0_number_5 : decode cX0_number 5 = .ok (.aload_n 0, 1) := by decide +kernel
theorem dX0_number_6 : decode cX0_number 6 = .ok (.getfield 9, 3) := by decide +kernel
theorem dX0_number_9 : decode cX0_number 9 = .ok (.arraylength, 1) := by decide +kernel
theorem dX0_number_10 : decode cX0_number 10 = .ok (.if_icmp .ge 12, 3) := by decide +kernel
theorem dX0_number_13 : decode cX0_number 13 = .ok (.aload_n 0, 1) := by decide +kernel
theorem dX0_number_14 : decode cX0_number 14 = .ok (.getfield 9, 3) := by decide +kernel
theorem dX0_number_17 : decode cX0_number 17 = .ok (.iload_n 1, 1) := by decide +kernel
theorem dX0_number_18 : decode cX0_number 18 = .ok (.iaload, 1) := by decide +kernel
theorem dX0_number_19 : decode cX0_number 19 = .ok (.goto 4, 3) := by decide +kernel
theorem dX0_number_22 : decode cX0_number 22 = .ok (.iconst 0, 1) := by decide +kernel
theorem dX0_number_23 : decode cX0_number 23 = .ok (.ireturn, 1) := by decide +kernel
set_option maxRecDepth 20000 in
theorem ggX0_hasHolidays_X0_number : GoodIn wsX0_hasHolidays wsX0_number := goodIn_r _ [5, 6, 7, 8, 9, 10, 11, 12, 13, 14, 15, 16, 17, 18, 19] (by decide +kernel) (by decide +kernel)
set_option maxRecDepth 20000 in
theorem gX0_hasHolidays_X0_number : GoodIn wsX0_hasHolidays (wsV RX0 63 RX0 yX0_number wsX0_number) := goodIn_app (goodIn_of _ (by decide +kernel)) ggX0_hasHolidays_X0_number
theorem dX0_hasHolidays_0 : decode cX0_hasHolidays 0 = .ok (.aload_n 0, 1) := by decide +kernel
theorem dX0_hasHolidays_1 : decode cX0_hasHolidays 1 = .ok (.bipush 10, 2) := by decide +kernel
theorem dX0_hasHolidays_3 : decode cX0_hasHolidays 3 = .ok (.invokevirtual 63, 3) := by decide +kernel
theorem dX0_hasHolidays_6 : decode cX0_hasHolidays 6 = .ok (.ifCond .eq 7, 3) := by decide +kernel
theorem dX0_hasHolidays_9 : decode cX0_hasHolidays 9 = .ok (.iconst 1, 1) := by decide +kernel
theorem dX0_hasHolidays_10 : decode cX0_hasHolidays 10 = .ok (.goto 4, 3) := by decide +kernel
theorem dX0_hasHolidays_13 : decode cX0_hasHolidays 13 = .ok (.iconst 0, 1) := by decide +kernel
theorem dX0_hasHolidays_14 : decode cX0_hasHolidays 14 = .ok (.ireturn, 1) := by decide +kernel
set_option maxRecDepth 20000 in
theorem ggX0_isPupil_X0_number : GoodIn wsX0_isPupil wsX0_number := goodIn_r _ [5, 6, 7, 8, 9, 10, 11, 12, 13, 14, 15, 16, 17, 18, 19] (by decide +kernel) (by decide +kernel)
set_option maxRecDepth 20000 in
theorem gX0_isPupil_X0_number : GoodIn wsX0_isPupil (wsV RX0 63 RX0 yX0_number wsX0_number) := goodIn_app (goodIn_of _ (by decide +kernel)) ggX0_isPupil_X0_number
theorem dX0_isPupil_0 : decode cX0_isPupil 0 = .ok (.iload_n 1, 1) := by decide +kernel
theorem dX0_isPupil_1 : decode cX0_isPupil 1 = .ok (.ifCond .lt 16, 3) := by decide +kernel
theorem dX0_isPupil_4 : decode cX0_isPupil 4 = .ok (.iload_n 1, 1) := by decide +kernel
theorem dX0_isPupil_5 : decode cX0_isPupil 5 = .ok (.aload_n 0, 1) := by decide +kernel
theorem dX0_isPupil_6 : decode cX0_isPupil 6 = .ok (.iconst 1, 1) := by decide +kernel
theorem dX0_isPupil_7 : decode cX0_isPupil 7 = .ok (.invokevirtual 63, 3) := by decide +kernel
theorem dX0_isPupil_10 : decode cX0_isPupil 10 = .ok (.if_icmp .ge 7, 3) := by decide +kernel
theorem dX0_isPupil_13 : decode cX0_isPupil 13 = .ok (.iconst 1, 1) := by decide +kernel
theorem dX0_isPupil_14 : decode cX0_isPupil 14 = .ok (.goto 4, 3) := by decide +kernel
theorem dX0_isPupil_17 : decode cX0_isPupil 17 = .ok (.iconst 0, 1) := by decide +kernel
theorem dX0_isPupil_18 : decode cX0_isPupil 18 = .ok (.ireturn, 1) := by decide +kernel
set_option maxRecDepth 20000 in
theorem ggX0_isPair_X0_isPupil : GoodIn wsX0_isPair wsX0_isPupil := goodIn_r _ [5, 6, 7, 8, 4, 9, 10, 11, 12, 13, 14, 15, 16, 17, 18, 19, 20, 21, 22, 23] (by decide +kernel) (by decide +kernel)
set_option maxRecDepth 20000 in
theorem gX0_isPair_X0_isPupil : GoodIn wsX0_isPair (wsV RX0 66 RX0 yX0_isPupil wsX0_isPupil) := goodIn_app (goodIn_of _ (by decide +kernel)) ggX0_isPair_X0_isPupil
theorem dX0_isPair_0 : decode cX0_isPair 0 = .ok (.aload_n 0, 1) := by decide +kernel
theorem dX0_isPair_1 : decode cX0_isPair 1 = .ok (.iload_n 1, 1) := by decide +kernel
theorem dX0_isPair_2 : decode cX0_isPair 2 = .ok (.invokevirtual 66, 3) := by decide +kernel
theorem dX0_isPair_5 : decode cX0_isPair 5 = .ok (.ifCond .eq 20, 3) := by decide +kernel
theorem dX0_isPair_8 : decode cX0_isPair 8 = .ok (.aload_n 0, 1) := by decide +kernel
theorem dX0_isPair_9 : decode cX0_isPair 9 = .ok (.iload_n 2, 1) := by decide +kernel
theorem dX0_isPair_10 : decode cX0_isPair 10 = .ok (.invokevirtual 66, 3) := by decide +kernel
theorem dX0_isPair_13 : decode cX0_isPair 13 = .ok (.ifCond .eq 12, 3) := by decide +kernel
theorem dX0_isPair_16 : decode cX0_isPair 16 = .ok (.iload_n 1, 1) := by decide +kernel
theorem dX0_isPair_17 : decode cX0_isPair 17 = .ok (.iload_n 2, 1) := by decide +kernel
theorem dX0_isPair_18 : decode cX0_isPair 18 = .ok (.if_icmp .eq 7, 3) := by decide +kernel
theorem dX0_isPair_21 : decode cX0_isPair 21 = .ok (.iconst 1, 1) := by decide +kernel
theorem dX0_isPair_22 : decode cX0_isPair 22 = .ok (.goto 4, 3) := by decide +kernel
theorem dX0_isPair_25 : decode cX0_isPair 25 = .ok (.iconst 0, 1) := by decide +kernel
theorem dX0_isPair_26 : decode cX0_isPair 26 = .ok (.ireturn, 1) := by decide +kernel
theorem dX0_guarantorOf_0 : decode cX0_guarantorOf 0 = .ok (.iload_n 1, 1) := by decide +kernel
theorem dX0_guarantorOf_1 : decode cX0_guarantorOf 1 = .ok (.ifCond .lt 23, 3) := by decide +kernel
theorem dX0_guarantorOf_4 : decode cX0_guarantorOf 4 = .ok (.iload_n 1, 1) := by decide +kernel
theorem dX0_guarantorOf_5 : decode cX0_guarantorOf 5 = .ok (.aload_n 0, 1) := by decide +kernel
theorem dX0_guarantorOf_6 : decode cX0_guarantorOf 6 = .ok (.getfield 24, 3) := by decide +kernel
theorem dX0_guarantorOf_9 : decode cX0_guarantorOf 9 = .ok (.arraylength, 1) := by decide +kernel
theorem dX0_guarantorOf_10 : decode cX0_guarantorOf 10 = .ok (.if_icmp .ge 14, 3) := by decide +kernel
theorem dX0_guarantorOf_13 : decode cX0_guarantorOf 13 = .ok (.aload_n 0, 1) := by decide +kernel
theorem dX0_guarantorOf_14 : decode cX0_guarantorOf 14 = .ok (.getfield 24, 3) := by decide +kernel
theorem dX0_guarantorOf_17 : decode cX0_guarantorOf 17 = .ok (.iload_n 1, 1) := by decide +kernel
theorem dX0_guarantorOf_18 : decode cX0_guarantorOf 18 = .ok (.iaload, 1) := by decide +kernel
theorem dX0_guarantorOf_19 : decode cX0_guarantorOf 19 = .ok (.iconst 1, 1) := by decide +kernel
theorem dX0_guarantorOf_20 : decode cX0_guarantorOf 20 = .ok (.isub, 1) := by decide +kernel
theorem dX0_guarantorOf_21 : decode cX0_guarantorOf 21 = .ok (.goto 4, 3) := by decide +kernel
theorem dX0_guarantorOf_24 : decode cX0_guarantorOf 24 = .ok (.iconst (-1), 1) := by decide +kernel
theorem dX0_guarantorOf_25 : decode cX0_guarantorOf 25 = .ok (.ireturn, 1) := by decide +kernel
set_option maxRecDepth 20000 in
theorem ggX0_tellOfPupil_X0_sumOwed : GoodIn wsX0_tellOfPupil wsX0_sumOwed := goodIn_r _ [11, 12, 13, 14, 15, 10, 16, 17, 18, 19, 20, 21, 22, 23, 24, 25, 26, 27, 37, 38, 39, 40, 41, 42, 43, 44, 45, 46, 47, 48, 49] (by decide +kernel) (by decide +kernel)
set_option maxRecDepth 20000 in
theorem gX0_tellOfPupil_X0_sumOwed : GoodIn wsX0_tellOfPupil (wsV RX0 70 RX0 yX0_sumOwed wsX0_sumOwed) := goodIn_app (goodIn_of _ (by decide +kernel)) ggX0_tellOfPupil_X0_sumOwed
set_option maxRecDepth 20000 in
theorem ggX0_tellOfPupil_X0_balanceByLots : GoodIn wsX0_tellOfPupil wsX0_balanceByLots := goodIn_r _ [31, 7, 8, 9, 10, 11, 12, 13, 14, 15, 16, 17, 18, 19, 20, 21, 22, 23, 24, 25, 26, 27, 37, 38, 39, 40, 41, 42, 43, 44, 45, 46, 47, 48, 49] (by decide +kernel) (by decide +kernel)
set_option maxRecDepth 20000 in
theorem gX0_tellOfPupil_X0_balanceByLots : GoodIn wsX0_tellOfPupil (wsV RX0 74 RX0 yX0_balanceByLots wsX0_balanceByLots) := goodIn_app (goodIn_of _ (by decide +kernel)) ggX0_tellOfPupil_X0_balanceByLots
set_option maxRecDepth 20000 in
theorem ggX0_tellOfPupil_X4_at : GoodIn wsX0_tellOfPupil wsX4_at := goodIn_r _ [27] (by decide +kernel) (by decide +kernel)
set_option maxRecDepth 20000 in
theorem gX0_tellOfPupil_X4_at_n77 : GoodIn wsX0_tellOfPupil (wsX4_at) := ggX0_tellOfPupil_X4_at
set_option maxRecDepth 20000 in
theorem ggX0_tellOfPupil_X0_guarantorOf : GoodIn wsX0_tellOfPupil wsX0_guarantorOf := goodIn_r _ [35, 36, 37, 38, 39, 40, 41, 42, 43, 44, 45, 46, 47, 48, 49] (by decide +kernel) (by decide +kernel)
set_option maxRecDepth 20000 in
theorem gX0_tellOfPupil_X0_guarantorOf : GoodIn wsX0_tellOfPupil (wsV RX0 81 RX0 yX0_guarantorOf wsX0_guarantorOf) := goodIn_app (goodIn_of _ (by decide +kernel)) ggX0_tellOfPupil_X0_guarantorOf
theorem dX0_tellOfPupil_0 : decode cX0_tellOfPupil 0 = .ok (.iload_n 2, 1) := by decide +kernel
theorem dX0_tellOfPupil_1 : decode cX0_tellOfPupil 1 = .ok (.tableswitch 132 0 7 #[47, 55, 63, 73, 86, 95, 104, 123], 47) := by decide +kernel
theorem dX0_tellOfPupil_48 : decode cX0_tellOfPupil 48 = .ok (.aload_n 0, 1) := by decide +kernel
theorem dX0_tellOfPupil_49 : decode cX0_tellOfPupil 49 = .ok (.iload_n 1, 1) := by decide +kernel
theorem dX0_tellOfPupil_50 : decode cX0_tellOfPupil 50 = .ok (.iconst (-1), 1) := by decide +kernel
theorem dX0_tellOfPupil_51 : decode cX0_tellOfPupil 51 = .ok (.iconst (-1), 1) := by decide +kernel
theorem dX0_tellOfPupil_52 : decode cX0_tellOfPupil 52 = .ok (.invokevirtual 70, 3) := by decide +kernel
theorem dX0_tellOfPupil_55 : decode cX0_tellOfPupil 55 = .ok (.ireturn, 1) := by decide +kernel
theorem dX0_tellOfPupil_56 : decode cX0_tellOfPupil 56 = .ok (.aload_n 0, 1) := by decide +kernel
theorem dX0_tellOfPupil_57 : decode cX0_tellOfPupil 57 = .ok (.iconst (-1), 1) := by decide +kernel
theorem dX0_tellOfPupil_58 : decode cX0_tellOfPupil 58 = .ok (.iload_n 1, 1) := by decide +kernel
theorem dX0_tellOfPupil_59 : decode cX0_tellOfPupil 59 = .ok (.iconst (-1), 1) := by decide +kernel
theorem dX0_tellOfPupil_60 : decode cX0_tellOfPupil 60 = .ok (.invokevirtual 70, 3) := by decide +kernel
theorem dX0_tellOfPupil_63 : decode cX0_tellOfPupil 63 = .ok (.ireturn, 1) := by decide +kernel
theorem dX0_tellOfPupil_64 : decode cX0_tellOfPupil 64 = .ok (.sipush 1000, 3) := by decide +kernel
theorem dX0_tellOfPupil_67 : decode cX0_tellOfPupil 67 = .ok (.aload_n 0, 1) := by decide +kernel
theorem dX0_tellOfPupil_68 : decode cX0_tellOfPupil 68 = .ok (.iload_n 1, 1) := by decide +kernel
theorem dX0_tellOfPupil_69 : decode cX0_tellOfPupil 69 = .ok (.invokevirtual 74, 3) := by decide +kernel
theorem dX0_tellOfPupil_72 : decode cX0_tellOfPupil 72 = .ok (.iadd, 1) := by decide +kernel
theorem dX0_tellOfPupil_73 : decode cX0_tellOfPupil 73 = .ok (.ireturn, 1) := by decide +kernel
theorem dX0_tellOfPupil_74 : decode cX0_tellOfPupil 74 = .ok (.sipush 1000, 3) := by decide +kernel
theorem dX0_tellOfPupil_77 : decode cX0_tellOfPupil 77 = .ok (.aload_n 0, 1) := by decide +kernel
theorem dX0_tellOfPupil_78 : decode cX0_tellOfPupil 78 = .ok (.getfield 15, 3) := by decide +kernel
theorem dX0_tellOfPupil_81 : decode cX0_tellOfPupil 81 = .ok (.iload_n 1, 1) := by decide +kernel
theorem dX0_tellOfPupil_82 : decode cX0_tellOfPupil 82 = .ok (.invokestatic 77, 3) := by decide +kernel
theorem dX0_tellOfPupil_85 : decode cX0_tellOfPupil 85 = .ok (.iadd, 1) := by decide +kernel
theorem dX0_tellOfPupil_86 : decode cX0_tellOfPupil 86 = .ok (.ireturn, 1) := by decide +kernel
theorem dX0_tellOfPupil_87 : decode cX0_tellOfPupil 87 = .ok (.aload_n 0, 1) := by decide +kernel
theorem dX0_tellOfPupil_88 : decode cX0_tellOfPupil 88 = .ok (.getfield 18, 3) := by decide +kernel
theorem dX0_tellOfPupil_91 : decode cX0_tellOfPupil 91 = .ok (.iload_n 1, 1) := by decide +kernel
theorem dX0_tellOfPupil_92 : decode cX0_tellOfPupil 92 = .ok (.invokestatic 77, 3) := by decide +kernel
theorem dX0_tellOfPupil_95 : decode cX0_tellOfPupil 95 = .ok (.ireturn, 1) := by decide +kernel
theorem dX0_tellOfPupil_96 : decode cX0_tellOfPupil 96 = .ok (.aload_n 0, 1) := by decide +kernel
theorem dX0_tellOfPupil_97 : decode cX0_tellOfPupil 97 = .ok (.getfield 21, 3) := by decide +kernel
theorem dX0_tellOfPupil_100 : decode cX0_tellOfPupil 100 = .ok (.iload_n 1, 1) := by decide +kernel
theorem dX0_tellOfPupil_101 : decode cX0_tellOfPupil 101 = .ok (.invokestatic 77, 3) := by decide +kernel
theorem dX0_tellOfPupil_104 : decode cX0_tellOfPupil 104 = .ok (.ireturn, 1) := by decide +kernel
theorem dX0_tellOfPupil_105 : decode cX0_tellOfPupil 105 = .ok (.aload_n 0, 1) := by decide +kernel
theorem dX0_tellOfPupil_106 : decode cX0_tellOfPupil 106 = .ok (.iload_n 1, 1) := by decide +kernel
theorem dX0_tellOfPupil_107 : decode cX0_tellOfPupil 107 = .ok (.invokevirtual 81, 3) := by decide +kernel
theorem dX0_tellOfPupil_110 : decode cX0_tellOfPupil 110 = .ok (.ifCond .lt 11, 3) := by decide +kernel
theorem dX0_tellOfPupil_113 : decode cX0_tellOfPupil 113 = .ok (.aload_n 0, 1) := by decide +kernel
theorem dX0_tellOfPupil_114 : decode cX0_tellOfPupil 114 = .ok (.iload_n 1, 1) := by decide +kernel
theorem dX0_tellOfPupil_115 : decode cX0_tellOfPupil 115 = .ok (.invokevirtual 81, 3) := by decide +kernel
theorem dX0_tellOfPupil_118 : decode cX0_tellOfPupil 118 = .ok (.goto 5, 3) := by decide +kernel
theorem dX0_tellOfPupil_121 : decode cX0_tellOfPupil 121 = .ok (.ldc 84, 2) := by decide +kernel
theorem dX0_tellOfPupil_123 : decode cX0_tellOfPupil 123 = .ok (.ireturn, 1) := by decide +kernel
theorem dX0_tellOfPupil_124 : decode cX0_tellOfPupil 124 = .ok (.aload_n 0, 1) := by decide +kernel
theorem dX0_tellOfPupil_125 : decode cX0_tellOfPupil 125 = .ok (.getfield 27, 3) := by decide +kernel
theorem dX0_tellOfPupil_128 : decode cX0_tellOfPupil 128 = .ok (.iload_n 1, 1) := by decide +kernel
theorem dX0_tellOfPupil_129 : decode cX0_tellOfPupil 129 = .ok (.invokestatic 77, 3) := by decide +kernel
theorem dX0_tellOfPupil_132 : decode cX0_tellOfPupil 132 = .ok (.ireturn, 1) := by decide +kernel
theorem dX0_tellOfPupil_133 : decode cX0_tellOfPupil 133 = .ok (.aload_n 0, 1) := by decide +kernel
theorem dX0_tellOfPupil_134 : decode cX0_tellOfPupil 134 = .ok (.getfield 30, 3) := by decide +kernel
theorem dX0_tellOfPupil_137 : decode cX0_tellOfPupil 137 = .ok (.iload_n 1, 1) := by decide +kernel
theorem dX0_tellOfPupil_138 : decode cX0_tellOfPupil 138 = .ok (.invokestatic 77, 3) := by decide +kernel
theorem dX0_tellOfPupil_141 : decode cX0_tellOfPupil 141 = .ok (.ireturn, 1) := by decide +kernel
set_option maxRecDepth 20000 in
theorem ggX0_setWithoutGuarantor_X0_number : GoodIn wsX0_setWithoutGuarantor wsX0_number := goodIn_r _ [5, 6, 12, 13, 14, 15, 16, 17, 18, 19, 20, 21, 22, 23, 24] (by decide +kernel) (by decide +kernel)
set_option maxRecDepth 20000 in
theorem gX0_setWithoutGuarantor_X0_number : GoodIn wsX0_setWithoutGuarantor (wsV RX0 63 RX0 yX0_number wsX0_number) := goodIn_app (goodIn_of _ (by decide +kernel)) ggX0_setWithoutGuarantor_X0_number
set_option maxRecDepth 20000 in
theorem ggX0_setWithoutGuarantor_X0_guarantorOf : GoodIn wsX0_setWithoutGuarantor wsX0_guarantorOf := goodIn_r _ [10, 11, 12, 13, 14, 15, 16, 17, 18, 19, 20, 21, 22, 23, 24] (by decide +kernel) (by decide +kernel)
set_option maxRecDepth 20000 in
theorem gX0_setWithoutGuarantor_X0_guarantorOf : GoodIn wsX0_setWithoutGuarantor (wsV RX0 81 RX0 yX0_guarantorOf wsX0_guarantorOf) := goodIn_app (goodIn_of _ (by decide +kernel)) ggX0_setWithoutGuarantor_X0_guarantorOf
theorem dX0_setWithoutGuarantor_0 : decode cX0_setWithoutGuarantor 0 = .ok (.iconst 0, 1) := by decide +kernel
theorem dX0_setWithoutGuarantor_1 : decode cX0_setWithoutGuarantor 1 = .ok (.istore_n 1, 1) := by decide +kernel
theorem dX0_setWithoutGuarantor_2 : decode cX0_setWithoutGuarantor 2 = .ok (.iconst 0, 1) := by decide +kernel
theorem dX0_setWithoutGuarantor_3 : decode cX0_setWithoutGuarantor 3 = .ok (.istore_n 2, 1) := by decide +kernel
theorem dX0_setWithoutGuarantor_4 : decode cX0_setWithoutGuarantor 4 = .ok (.iload_n 2, 1) := by decide +kernel
theorem dX0_setWithoutGuarantor_5 : decode cX0_setWithoutGuarantor 5 = .ok (.aload_n 0, 1) := by decide +kernel
theorem dX0_setWithoutGuarantor_6 : decode cX0_setWithoutGuarantor 6 = .ok (.iconst 1, 1) := by decide +kernel
theorem dX0_setWithoutGuarantor_7 : decode cX0_setWithoutGuarantor 7 = .ok (.invokevirtual 63, 3) := by decide +kernel
theorem dX0_setWithoutGuarantor_10 : decode cX0_setWithoutGuarantor 10 = .ok (.if_icmp .ge 23, 3) := by decide +kernel
theorem dX0_setWithoutGuarantor_13 : decode cX0_setWithoutGuarantor 13 = .ok (.aload_n 0, 1) := by decide +kernel
theorem dX0_setWithoutGuarantor_14 : decode cX0_setWithoutGuarantor 14 = .ok (.iload_n 2, 1) := by decide +kernel
theorem dX0_setWithoutGuarantor_15 : decode cX0_setWithoutGuarantor 15 = .ok (.invokevirtual 81, 3) := by decide +kernel
theorem dX0_setWithoutGuarantor_18 : decode cX0_setWithoutGuarantor 18 = .ok (.ifCond .ge 9, 3) := by decide +kernel
theorem dX0_setWithoutGuarantor_21 : decode cX0_setWithoutGuarantor 21 = .ok (.iload_n 1, 1) := by decide +kernel
theorem dX0_setWithoutGuarantor_22 : decode cX0_setWithoutGuarantor 22 = .ok (.iconst 1, 1) := by decide +kernel
theorem dX0_setWithoutGuarantor_23 : decode cX0_setWithoutGuarantor 23 = .ok (.iload_n 2, 1) := by decide +kernel
theorem dX0_setWithoutGuarantor_24 : decode cX0_setWithoutGuarantor 24 = .ok (.ishl, 1) := by decide +kernel
theorem dX0_setWithoutGuarantor_25 : decode cX0_setWithoutGuarantor 25 = .ok (.ior, 1) := by decide +kernel
theorem dX0_setWithoutGuarantor_26 : decode cX0_setWithoutGuarantor 26 = .ok (.istore_n 1, 1) := by decide +kernel
theorem dX0_setWithoutGuarantor_27 : decode cX0_setWithoutGuarantor 27 = .ok (.iinc 2 1, 3) := by decide +kernel
theorem dX0_setWithoutGuarantor_30 : decode cX0_setWithoutGuarantor 30 = .ok (.goto (-26), 3) := by decide +kernel
theorem dX0_setWithoutGuarantor_33 : decode cX0_setWithoutGuarantor 33 = .ok (.iload_n 1, 1) := by decide +kernel
theorem dX0_setWithoutGuarantor_34 : decode cX0_setWithoutGuarantor 34 = .ok (.ireturn, 1) := by decide +kernel
set_option maxRecDepth 20000 in
theorem ggX0_addPupil_X0_number : GoodIn wsX0_addPupil wsX0_number := goodIn_r _ [7, 2, 11, 12, 13, 14, 15, 16, 17, 18, 19, 20, 21, 22, 23] (by decide +kernel) (by decide +kernel)
set_option maxRecDepth 20000 in
theorem gX0_addPupil_X0_number : GoodIn wsX0_addPupil (wsV RX0 63 RX0 yX0_number wsX0_number) := goodIn_app (goodIn_of _ (by decide +kernel)) ggX0_addPupil_X0_number
set_option maxRecDepth 20000 in
theorem ggX0_addPupil_X4_add : GoodIn wsX0_addPupil wsX4_add := goodIn_r _ [10] (by decide +kernel) (by decide +kernel)
set_option maxRecDepth 20000 in
theorem gX0_addPupil_X4_add_n86 : GoodIn wsX0_addPupil (wsX4_add) := ggX0_addPupil_X4_add
theorem dX0_addPupil_0 : decode cX0_addPupil 0 = .ok (.aload_n 0, 1) := by decide +kernel
theorem dX0_addPupil_1 : decode cX0_addPupil 1 = .ok (.iconst 1, 1) := by decide +kernel
theorem dX0_addPupil_2 : decode cX0_addPupil 2 = .ok (.invokevirtual 63, 3) := by decide +kernel
theorem dX0_addPupil_5 : decode cX0_addPupil 5 = .ok (.bipush 8, 2) := by decide +kernel
theorem dX0_addPupil_7 : decode cX0_addPupil 7 = .ok (.if_icmp .lt 6, 3) := by decide +kernel
theorem dX0_addPupil_10 : decode cX0_addPupil 10 = .ok (.ldc 85, 2) := by decide +kernel
theorem dX0_addPupil_12 : decode cX0_addPupil 12 = .ok (.ireturn, 1) := by decide +kernel
theorem dX0_addPupil_13 : decode cX0_addPupil 13 = .ok (.aload_n 0, 1) := by decide +kernel
theorem dX0_addPupil_14 : decode cX0_addPupil 14 = .ok (.getfield 9, 3) := by decide +kernel
theorem dX0_addPupil_17 : decode cX0_addPupil 17 = .ok (.iconst 1, 1) := by decide +kernel
theorem dX0_addPupil_18 : decode cX0_addPupil 18 = .ok (.iconst 1, 1) := by decide +kernel
theorem dX0_addPupil_19 : decode cX0_addPupil 19 = .ok (.invokestatic 86, 3) := by decide +kernel
theorem dX0_addPupil_22 : decode cX0_addPupil 22 = .ok (.aload_n 0, 1) := by decide +kernel
theorem dX0_addPupil_23 : decode cX0_addPupil 23 = .ok (.iconst 1, 1) := by decide +kernel
theorem dX0_addPupil_24 : decode cX0_addPupil 24 = .ok (.invokevirtual 63, 3) := by decide +kernel
theorem dX0_addPupil_27 : decode cX0_addPupil 27 = .ok (.iconst 1, 1) := by decide +kernel
theorem dX0_addPupil_28 : decode cX0_addPupil 28 = .ok (.isub, 1) := by decide +kernel
theorem dX0_addPupil_29 : decode cX0_addPupil 29 = .ok (.ireturn, 1) := by decide +kernel
set_option maxRecDepth 20000 in
theorem ggX0_giveGuarantor_X0_isPupil : GoodIn wsX0_giveGuarantor wsX0_isPupil := goodIn_r _ [7, 8, 9, 10, 6, 11, 12, 22, 23, 24, 25, 26, 27, 28, 29, 30, 31, 32, 33, 34] (by decide +kernel) (by decide +kernel)
set_option maxRecDepth 20000 in
theorem gX0_giveGuarantor_X0_isPupil : GoodIn wsX0_giveGuarantor (wsV RX0 66 RX0 yX0_isPupil wsX0_isPupil) := goodIn_app (goodIn_of _ (by decide +kernel)) ggX0_giveGuarantor_X0_isPupil
set_option maxRecDepth 20000 in
theorem ggX0_giveGuarantor_X0_isPair : GoodIn wsX0_giveGuarantor wsX0_isPair := goodIn_r _ [16, 3, 4, 5, 6, 7, 8, 9, 10, 11, 12, 22, 23, 24, 25, 26, 27, 28, 29, 30, 31, 32, 33, 34] (by decide +kernel) (by decide +kernel)
set_option maxRecDepth 20000 in
theorem gX0_giveGuarantor_X0_isPair : GoodIn wsX0_giveGuarantor (wsV RX0 89 RX0 yX0_isPair wsX0_isPair) := goodIn_app (goodIn_of _ (by decide +kernel)) ggX0_giveGuarantor_X0_isPair
set_option maxRecDepth 20000 in
theorem ggX0_giveGuarantor_X4_at : GoodIn wsX0_giveGuarantor wsX4_at := goodIn_r _ [19] (by decide +kernel) (by decide +kernel)
set_option maxRecDepth 20000 in
theorem gX0_giveGuarantor_X4_at_n77 : GoodIn wsX0_giveGuarantor (wsX4_at) := ggX0_giveGuarantor_X4_at
set_option maxRecDepth 20000 in
theorem ggX0_giveGuarantor_X4_put : GoodIn wsX0_giveGuarantor wsX4_put := goodIn_r _ [21] (by decide +kernel) (by decide +kernel)
set_option maxRecDepth 20000 in
theorem gX0_giveGuarantor_X4_put_n55 : GoodIn wsX0_giveGuarantor (wsX4_put) := ggX0_giveGuarantor_X4_put
theorem dX0_giveGuarantor_0 : decode cX0_giveGuarantor 0 = .ok (.aload_n 0, 1) := by decide +kernel
theorem dX0_giveGuarantor_1 : decode cX0_giveGuarantor 1 = .ok (.iload_n 1, 1) := by decide +kernel
theorem dX0_giveGuarantor_2 : decode cX0_giveGuarantor 2 = .ok (.invokevirtual 66, 3) := by decide +kernel
theorem dX0_giveGuarantor_5 : decode cX0_giveGuarantor 5 = .ok (.ifCond .eq 17, 3) := by decide +kernel
theorem dX0_giveGuarantor_8 : decode cX0_giveGuarantor 8 = .ok (.iload_n 2, 1) := by decide +kernel
theorem dX0_giveGuarantor_9 : decode cX0_giveGuarantor 9 = .ok (.iconst (-1), 1) := by decide +kernel
theorem dX0_giveGuarantor_10 : decode cX0_giveGuarantor 10 = .ok (.if_icmp .eq 15, 3) := by decide +kernel
theorem dX0_giveGuarantor_13 : decode cX0_giveGuarantor 13 = .ok (.aload_n 0, 1) := by decide +kernel
theorem dX0_giveGuarantor_14 : decode cX0_giveGuarantor 14 = .ok (.iload_n 1, 1) := by decide +kernel
theorem dX0_giveGuarantor_15 : decode cX0_giveGuarantor 15 = .ok (.iload_n 2, 1) := by decide +kernel
theorem dX0_giveGuarantor_16 : decode cX0_giveGuarantor 16 = .ok (.invokevirtual 89, 3) := by decide +kernel
theorem dX0_giveGuarantor_19 : decode cX0_giveGuarantor 19 = .ok (.ifCond .ne 6, 3) := by decide +kernel
theorem dX0_giveGuarantor_22 : decode cX0_giveGuarantor 22 = .ok (.ldc 93, 2) := by decide +kernel
theorem dX0_giveGuarantor_24 : decode cX0_giveGuarantor 24 = .ok (.ireturn, 1) := by decide +kernel
theorem dX0_giveGuarantor_25 : decode cX0_giveGuarantor 25 = .ok (.aload_n 0, 1) := by decide +kernel
theorem dX0_giveGuarantor_26 : decode cX0_giveGuarantor 26 = .ok (.getfield 24, 3) := by decide +kernel
theorem dX0_giveGuarantor_29 : decode cX0_giveGuarantor 29 = .ok (.iload_n 1, 1) := by decide +kernel
theorem dX0_giveGuarantor_30 : decode cX0_giveGuarantor 30 = .ok (.invokestatic 77, 3) := by decide +kernel
theorem dX0_giveGuarantor_33 : decode cX0_giveGuarantor 33 = .ok (.istore_n 3, 1) := by decide +kernel
theorem dX0_giveGuarantor_34 : decode cX0_giveGuarantor 34 = .ok (.aload_n 0, 1) := by decide +kernel
theorem dX0_giveGuarantor_35 : decode cX0_giveGuarantor 35 = .ok (.getfield 24, 3) := by decide +kernel
theorem dX0_giveGuarantor_38 : decode cX0_giveGuarantor 38 = .ok (.iload_n 1, 1) := by decide +kernel
theorem dX0_giveGuarantor_39 : decode cX0_giveGuarantor 39 = .ok (.iload_n 2, 1) := by decide +kernel
theorem dX0_giveGuarantor_40 : decode cX0_giveGuarantor 40 = .ok (.iconst 1, 1) := by decide +kernel
theorem dX0_giveGuarantor_41 : decode cX0_giveGuarantor 41 = .ok (.iadd, 1) := by decide +kernel
theorem dX0_giveGuarantor_42 : decode cX0_giveGuarantor 42 = .ok (.invokestatic 55, 3) := by decide +kernel
theorem dX0_giveGuarantor_45 : decode cX0_giveGuarantor 45 = .ok (.iload_n 3, 1) := by decide +kernel
theorem dX0_giveGuarantor_46 : decode cX0_giveGuarantor 46 = .ok (.ireturn, 1) := by decide +kernel
set_option maxRecDepth 20000 in
theorem ggX0_balanceByLots_X0_sumOwed : GoodIn wsX0_balanceByLots wsX0_sumOwed := goodIn_r _ [5, 6, 7, 8, 9, 4, 10, 11, 12, 13, 14, 15, 16, 17, 18, 19, 20, 21, 22, 23, 24, 25, 26, 27, 28, 29, 30, 31, 32, 33, 34] (by decide +kernel) (by decide +kernel)
set_option maxRecDepth 20000 in
theorem gX0_balanceByLots_X0_sumOwed : GoodIn wsX0_balanceByLots (wsV RX0 70 RX0 yX0_sumOwed wsX0_sumOwed) := goodIn_app (goodIn_of _ (by decide +kernel)) ggX0_balanceByLots_X0_sumOwed
theorem dX0_balanceByLots_0 : decode cX0_balanceByLots 0 = .ok (.aload_n 0, 1) := by decide +kernel
theorem dX0_balanceByLots_1 : decode cX0_balanceByLots 1 = .ok (.iconst (-1), 1) := by decide +kernel
theorem dX0_balanceByLots_2 : decode cX0_balanceByLots 2 = .ok (.iload_n 1, 1) := by decide +kernel
theorem dX0_balanceByLots_3 : decode cX0_balanceByLots 3 = .ok (.iconst (-1), 1) := by decide +kernel
theorem dX0_balanceByLots_4 : decode cX0_balanceByLots 4 = .ok (.invokevirtual 70, 3) := by decide +kernel
theorem dX0_balanceByLots_7 : decode cX0_balanceByLots 7 = .ok (.aload_n 0, 1) := by decide +kernel
theorem dX0_balanceByLots_8 : decode cX0_balanceByLots 8 = .ok (.iload_n 1, 1) := by decide +kernel
theorem dX0_balanceByLots_9 : decode cX0_balanceByLots 9 = .ok (.iconst (-1), 1) := by decide +kernel
theorem dX0_balanceByLots_10 : decode cX0_balanceByLots 10 = .ok (.iconst (-1), 1) := by decide +kernel
theorem dX0_balanceByLots_11 : decode cX0_balanceByLots 11 = .ok (.invokevirtual 70, 3) := by decide +kernel
theorem dX0_balanceByLots_14 : decode cX0_balanceByLots 14 = .ok (.isub, 1) := by decide +kernel
theorem dX0_balanceByLots_15 : decode cX0_balanceByLots 15 = .ok (.ireturn, 1) := by decide +kernel
set_option maxRecDepth 20000 in
theorem ggX0_rankOf_X0_balanceByLots : GoodIn wsX0_rankOf wsX0_balanceByLots := goodIn_r _ [5, 6, 7, 8, 4, 9, 10, 11, 12, 13, 14, 15, 16, 17, 18, 19, 20, 21, 22, 23, 24, 25, 26, 27, 28, 29, 30, 31, 32, 33, 34, 35, 36, 37, 38] (by decide +kernel) (by decide +kernel)
set_option maxRecDepth 20000 in
theorem gX0_rankOf_X0_balanceByLots : GoodIn wsX0_rankOf (wsV RX0 74 RX0 yX0_balanceByLots wsX0_balanceByLots) := goodIn_app (goodIn_of _ (by decide +kernel)) ggX0_rankOf_X0_balanceByLots
set_option maxRecDepth 20000 in
theorem ggX0_rankOf_X0_number : GoodIn wsX0_rankOf wsX0_number := goodIn_r _ [14, 15, 26, 27, 28, 29, 30, 31, 32, 33, 34, 35, 36, 37, 38] (by decide +kernel) (by decide +kernel)
set_option maxRecDepth 20000 in
theorem gX0_rankOf_X0_number : GoodIn wsX0_rankOf (wsV RX0 63 RX0 yX0_number wsX0_number) := goodIn_app (goodIn_of _ (by decide +kernel)) ggX0_rankOf_X0_number
theorem dX0_rankOf_0 : decode cX0_rankOf 0 = .ok (.aload_n 0, 1) := by decide +kernel
theorem dX0_rankOf_1 : decode cX0_rankOf 1 = .ok (.iload_n 1, 1) := by decide +kernel
theorem dX0_rankOf_2 : decode cX0_rankOf 2 = .ok (.invokevirtual 74, 3) := by decide +kernel
theorem dX0_rankOf_5 : decode cX0_rankOf 5 = .ok (.istore_n 2, 1) := by decide +kernel
theorem dX0_rankOf_6 : decode cX0_rankOf 6 = .ok (.iconst 0, 1) := by decide +kernel
theorem dX0_rankOf_7 : decode cX0_rankOf 7 = .ok (.istore_n 3, 1) := by decide +kernel
theorem dX0_rankOf_8 : decode cX0_rankOf 8 = .ok (.iconst 0, 1) := by decide +kernel
theorem dX0_rankOf_9 : decode cX0_rankOf 9 = .ok (.istore 4, 2) := by decide +kernel
theorem dX0_rankOf_11 : decode cX0_rankOf 11 = .ok (.iload 4, 2) := by decide +kernel
theorem dX0_rankOf_13 : decode cX0_rankOf 13 = .ok (.aload_n 0, 1) := by decide +kernel
theorem dX0_rankOf_14 : decode cX0_rankOf 14 = .ok (.iconst 1, 1) := by decide +kernel
theorem dX0_rankOf_15 : decode cX0_rankOf 15 = .ok (.invokevirtual 63, 3) := by decide +kernel
theorem dX0_rankOf_18 : decode cX0_rankOf 18 = .ok (.if_icmp .ge 38, 3) := by decide +kernel
theorem dX0_rankOf_21 : decode cX0_rankOf 21 = .ok (.aload_n 0, 1) := by decide +kernel
theorem dX0_rankOf_22 : decode cX0_rankOf 22 = .ok (.iload 4, 2) := by decide +kernel
theorem dX0_rankOf_24 : decode cX0_rankOf 24 = .ok (.invokevirtual 74, 3) := by decide +kernel
theorem dX0_rankOf_27 : decode cX0_rankOf 27 = .ok (.istore 5, 2) := by decide +kernel
theorem dX0_rankOf_29 : decode cX0_rankOf 29 = .ok (.iload 5, 2) := by decide +kernel
theorem dX0_rankOf_31 : decode cX0_rankOf 31 = .ok (.iload_n 2, 1) := by decide +kernel
theorem dX0_rankOf_32 : decode cX0_rankOf 32 = .ok (.if_icmp .gt 15, 3) := by decide +kernel
theorem dX0_rankOf_35 : decode cX0_rankOf 35 = .ok (.iload 5, 2) := by decide +kernel
theorem dX0_rankOf_37 : decode cX0_rankOf 37 = .ok (.iload_n 2, 1) := by decide +kernel
theorem dX0_rankOf_38 : decode cX0_rankOf 38 = .ok (.if_icmp .ne 12, 3) := by decide +kernel
theorem dX0_rankOf_41 : decode cX0_rankOf 41 = .ok (.iload 4, 2) := by decide +kernel
theorem dX0_rankOf_43 : decode cX0_rankOf 43 = .ok (.iload_n 1, 1) := by decide +kernel
theorem dX0_rankOf_44 : decode cX0_rankOf 44 = .ok (.if_icmp .ge 6, 3) := by decide +kernel
theorem dX0_rankOf_47 : decode cX0_rankOf 47 = .ok (.iinc 3 1, 3) := by decide +kernel
theorem dX0_rankOf_50 : decode cX0_rankOf 50 = .ok (.iinc 4 1, 3) := by decide +kernel
theorem dX0_rankOf_53 : decode cX0_rankOf 53 = .ok (.goto (-42), 3) := by decide +kernel
theorem dX0_rankOf_56 : decode cX0_rankOf 56 = .ok (.iload_n 3, 1) := by decide +kernel
theorem dX0_rankOf_57 : decode cX0_rankOf 57 = .ok (.ireturn, 1) := by decide +kernel
set_option maxRecDepth 20000 in
theorem ggX0_tellOfLot_X4_at : GoodIn wsX0_tellOfLot wsX4_at := goodIn_r _ [9] (by decide +kernel) (by decide +kernel)
set_option maxRecDepth 20000 in
theorem gX0_tellOfLot_X4_at_n77 : GoodIn wsX0_tellOfLot (wsX4_at) := ggX0_tellOfLot_X4_at
theorem dX0_tellOfLot_0 : decode cX0_tellOfLot 0 = .ok (.iload_n 2, 1) := by decide +kernel
theorem dX0_tellOfLot_1 : decode cX0_tellOfLot 1 = .ok (.tableswitch 80 0 4 #[35, 44, 53, 62, 71], 35) := by decide +kernel
theorem dX0_tellOfLot_36 : decode cX0_tellOfLot 36 = .ok (.aload_n 0, 1) := by decide +kernel
theorem dX0_tellOfLot_37 : decode cX0_tellOfLot 37 = .ok (.getfield 33, 3) := by decide +kernel
theorem dX0_tellOfLot_40 : decode cX0_tellOfLot 40 = .ok (.iload_n 1, 1) := by decide +kernel
theorem dX0_tellOfLot_41 : decode cX0_tellOfLot 41 = .ok (.invokestatic 77, 3) := by decide +kernel
theorem dX0_tellOfLot_44 : decode cX0_tellOfLot 44 = .ok (.ireturn, 1) := by decide +kernel
theorem dX0_tellOfLot_45 : decode cX0_tellOfLot 45 = .ok (.aload_n 0, 1) := by decide +kernel
theorem dX0_tellOfLot_46 : decode cX0_tellOfLot 46 = .ok (.getfield 36, 3) := by decide +kernel
theorem dX0_tellOfLot_49 : decode cX0_tellOfLot 49 = .ok (.iload_n 1, 1) := by decide +kernel
theorem dX0_tellOfLot_50 : decode cX0_tellOfLot 50 = .ok (.invokestatic 77, 3) := by decide +kernel
theorem dX0_tellOfLot_53 : decode cX0_tellOfLot 53 = .ok (.ireturn, 1) := by decide +kernel
theorem dX0_tellOfLot_54 : decode cX0_tellOfLot 54 = .ok (.aload_n 0, 1) := by decide +kernel
theorem dX0_tellOfLot_55 : decode cX0_tellOfLot 55 = .ok (.getfield 39, 3) := by decide +kernel
theorem dX0_tellOfLot_58 : decode cX0_tellOfLot 58 = .ok (.iload_n 1, 1) := by decide +kernel
theorem dX0_tellOfLot_59 : decode cX0_tellOfLot 59 = .ok (.invokestatic 77, 3) := by decide +kernel
theorem dX0_tellOfLot_62 : decode cX0_tellOfLot 62 = .ok (.ireturn, 1) := by decide +kernel
theorem dX0_tellOfLot_63 : decode cX0_tellOfLot 63 = .ok (.aload_n 0, 1) := by decide +kernel
theorem dX0_tellOfLot_64 : decode cX0_tellOfLot 64 = .ok (.getfield 42, 3) := by decide +kernel
theorem dX0_tellOfLot_67 : decode cX0_tellOfLot 67 = .ok (.iload_n 1, 1) := by decide +kernel
theorem dX0_tellOfLot_68 : decode cX0_tellOfLot 68 = .ok (.invokestatic 77, 3) := by decide +kernel
theorem dX0_tellOfLot_71 : decode cX0_tellOfLot 71 = .ok (.ireturn, 1) := by decide +kernel
theorem dX0_tellOfLot_72 : decode cX0_tellOfLot 72 = .ok (.aload_n 0, 1) := by decide +kernel
theorem dX0_tellOfLot_73 : decode cX0_tellOfLot 73 = .ok (.getfield 45, 3) := by decide +kernel
theorem dX0_tellOfLot_76 : decode cX0_tellOfLot 76 = .ok (.iload_n 1, 1) := by decide +kernel
theorem dX0_tellOfLot_77 : decode cX0_tellOfLot 77 = .ok (.invokestatic 77, 3) := by decide +kernel
theorem dX0_tellOfLot_80 : decode cX0_tellOfLot 80 = .ok (.ireturn, 1) := by decide +kernel
theorem dX0_tellOfLot_81 : decode cX0_tellOfLot 81 = .ok (.aload_n 0, 1) := by decide +kernel
theorem dX0_tellOfLot_82 : decode cX0_tellOfLot 82 = .ok (.getfield 48, 3) := by decide +kernel
theorem dX0_tellOfLot_85 : decode cX0_tellOfLot 85 = .ok (.iload_n 1, 1) := by decide +kernel
theorem dX0_tellOfLot_86 : decode cX0_tellOfLot 86 = .ok (.invokestatic 77, 3) := by decide +kernel
theorem dX0_tellOfLot_89 : decode cX0_tellOfLot 89 = .ok (.ireturn, 1) := by decide +kernel
theorem dX0_isLotOf_0 : decode cX0_isLotOf 0 = .ok (.iload_n 1, 1) := by decide +kernel
theorem dX0_isLotOf_1 : decode cX0_isLotOf 1 = .ok (.ifCond .lt 9, 3) := by decide +kernel
theorem dX0_isLotOf_4 : decode cX0_isLotOf 4 = .ok (.iload_n 1, 1) := by decide +kernel
theorem dX0_isLotOf_5 : decode cX0_isLotOf 5 = .ok (.bipush 40, 2) := by decide +kernel
theorem dX0_isLotOf_7 : decode cX0_isLotOf 7 = .ok (.if_icmp .lt 5, 3) := by decide +kernel
theorem dX0_isLotOf_10 : decode cX0_isLotOf 10 = .ok (.iconst 0, 1) := by decide +kernel
theorem dX0_isLotOf_11 : decode cX0_isLotOf 11 = .ok (.ireturn, 1) := by decide +kernel
theorem dX0_isLotOf_12 : decode cX0_isLotOf 12 = .ok (.iload_n 2, 1) := by decide +kernel
theorem dX0_isLotOf_13 : decode cX0_isLotOf 13 = .ok (.iconst (-1), 1) := by decide +kernel
theorem dX0_isLotOf_14 : decode cX0_isLotOf 14 = .ok (.if_icmp .eq 13, 3) := by decide +kernel
theorem dX0_isLotOf_17 : decode cX0_isLotOf 17 = .ok (.iload_n 2, 1) := by decide +kernel
theorem dX0_isLotOf_18 : decode cX0_isLotOf 18 = .ok (.aload_n 0, 1) := by decide +kernel
theorem dX0_isLotOf_19 : decode cX0_isLotOf 19 = .ok (.getfield 33, 3) := by decide +kernel
theorem dX0_isLotOf_22 : decode cX0_isLotOf 22 = .ok (.iload_n 1, 1) := by decide +kernel
theorem dX0_isLotOf_23 : decode cX0_isLotOf 23 = .ok (.iaload, 1) := by decide +kernel
theorem dX0_isLotOf_24 : decode cX0_isLotOf 24 = .ok (.if_icmp .ne 39, 3) := by decide +kernel
theorem dX0_isLotOf_27 : decode cX0_isLotOf 27 = .ok (.iload_n 3, 1) := by decide +kernel
theorem dX0_isLotOf_28 : decode cX0_isLotOf 28 = .ok (.iconst (-1), 1) := by decide +kernel
theorem dX0_isLotOf_29 : decode cX0_isLotOf 29 = .ok (.if_icmp .eq 13, 3) := by decide +kernel
theorem dX0_isLotOf_32 : decode cX0_isLotOf 32 = .ok (.iload_n 3, 1) := by decide +kernel
theorem dX0_isLotOf_33 : decode cX0_isLotOf 33 = .ok (.aload_n 0, 1) := by decide +kernel
theorem dX0_isLotOf_34 : decode cX0_isLotOf 34 = .ok (.getfield 36, 3) := by decide +kernel
theorem dX0_isLotOf_37 : decode cX0_isLotOf 37 = .ok (.iload_n 1, 1) := by decide +kernel
theorem dX0_isLotOf_38 : decode cX0_isLotOf 38 = .ok (.iaload, 1) := by decide +kernel
theorem dX0_isLotOf_39 : decode cX0_isLotOf 39 = .ok (.if_icmp .ne 24, 3) := by decide +kernel
theorem dX0_isLotOf_42 : decode cX0_isLotOf 42 = .ok (.iload 4, 2) := by decide +kernel
theorem dX0_isLotOf_44 : decode cX0_isLotOf 44 = .ok (.iconst (-1), 1) := by decide +kernel
theorem dX0_isLotOf_45 : decode cX0_isLotOf 45 = .ok (.if_icmp .eq 14, 3) := by decide +kernel
theorem dX0_isLotOf_48 : decode cX0_isLotOf 48 = .ok (.iload 4, 2) := by decide +kernel
theorem dX0_isLotOf_50 : decode cX0_isLotOf 50 = .ok (.aload_n 0, 1) := by decide +kernel
theorem dX0_isLotOf_51 : decode cX0_isLotOf 51 = .ok (.getfield 39, 3) := by decide +kernel
theorem dX0_isLotOf_54 : decode cX0_isLotOf 54 = .ok (.iload_n 1, 1) := by decide +kernel
theorem dX0_isLotOf_55 : decode cX0_isLotOf 55 = .ok (.iaload, 1) := by decide +kernel
theorem dX0_isLotOf_56 : decode cX0_isLotOf 56 = .ok (.if_icmp .ne 7, 3) := by decide +kernel
theorem dX0_isLotOf_59 : decode cX0_isLotOf 59 = .ok (.iconst 1, 1) := by decide +kernel
theorem dX0_isLotOf_60 : decode cX0_isLotOf 60 = .ok (.goto 4, 3) := by decide +kernel
theorem dX0_isLotOf_63 : decode cX0_isLotOf 63 = .ok (.iconst 0, 1) := by decide +kernel
theorem dX0_isLotOf_64 : decode cX0_isLotOf 64 = .ok (.ireturn, 1) := by decide +kernel
set_option maxRecDepth 20000 in
theorem ggX0_sumOwed_X0_number : GoodIn wsX0_sumOwed wsX0_number := goodIn_r _ [6, 7, 18, 19, 20, 21, 22, 23, 24, 25, 26, 27, 28, 29, 30] (by decide +kernel) (by decide +kernel)
set_option maxRecDepth 20000 in
theorem gX0_sumOwed_X0_number : GoodIn wsX0_sumOwed (wsV RX0 63 RX0 yX0_number wsX0_number) := goodIn_app (goodIn_of _ (by decide +kernel)) ggX0_sumOwed_X0_number
set_option maxRecDepth 20000 in
theorem ggX0_sumOwed_X0_isLotOf : GoodIn wsX0_sumOwed wsX0_isLotOf := goodIn_r _ [11, 12, 13, 14, 18, 19, 20, 21, 22, 23, 24, 25, 26, 27, 28, 29, 30] (by decide +kernel) (by decide +kernel)
set_option maxRecDepth 20000 in
theorem gX0_sumOwed_X0_isLotOf : GoodIn wsX0_sumOwed (wsV RX0 94 RX0 yX0_isLotOf wsX0_isLotOf) := goodIn_app (goodIn_of _ (by decide +kernel)) ggX0_sumOwed_X0_isLotOf
set_option maxRecDepth 20000 in
theorem ggX0_sumOwed_X4_at : GoodIn wsX0_sumOwed wsX4_at := goodIn_r _ [17] (by decide +kernel) (by decide +kernel)
set_option maxRecDepth 20000 in
theorem gX0_sumOwed_X4_at_n77 : GoodIn wsX0_sumOwed (wsX4_at) := ggX0_sumOwed_X4_at
theorem dX0_sumOwed_0 : decode cX0_sumOwed 0 = .ok (.iconst 0, 1) := by decide +kernel
theorem dX0_sumOwed_1 : decode cX0_sumOwed 1 = .ok (.istore 4, 2) := by decide +kernel
theorem dX0_sumOwed_3 : decode cX0_sumOwed 3 = .ok (.iconst 0, 1) := by decide +kernel
theorem dX0_sumOwed_4 : decode cX0_sumOwed 4 = .ok (.istore 5, 2) := by decide +kernel
theorem dX0_sumOwed_6 : decode cX0_sumOwed 6 = .ok (.iload 5, 2) := by decide +kernel
theorem dX0_sumOwed_8 : decode cX0_sumOwed 8 = .ok (.aload_n 0, 1) := by decide +kernel
theorem dX0_sumOwed_9 : decode cX0_sumOwed 9 = .ok (.iconst 2, 1) := by decide +kernel
theorem dX0_sumOwed_10 : decode cX0_sumOwed 10 = .ok (.invokevirtual 63, 3) := by decide +kernel
theorem dX0_sumOwed_13 : decode cX0_sumOwed 13 = .ok (.if_icmp .ge 35, 3) := by decide +kernel
theorem dX0_sumOwed_16 : decode cX0_sumOwed 16 = .ok (.aload_n 0, 1) := by decide +kernel
theorem dX0_sumOwed_17 : decode cX0_sumOwed 17 = .ok (.iload 5, 2) := by decide +kernel
theorem dX0_sumOwed_19 : decode cX0_sumOwed 19 = .ok (.iload_n 1, 1) := by decide +kernel
theorem dX0_sumOwed_20 : decode cX0_sumOwed 20 = .ok (.iload_n 2, 1) := by decide +kernel
theorem dX0_sumOwed_21 : decode cX0_sumOwed 21 = .ok (.iload_n 3, 1) := by decide +kernel
theorem dX0_sumOwed_22 : decode cX0_sumOwed 22 = .ok (.invokevirtual 94, 3) := by decide +kernel
theorem dX0_sumOwed_25 : decode cX0_sumOwed 25 = .ok (.ifCond .eq 17, 3) := by decide +kernel
theorem dX0_sumOwed_28 : decode cX0_sumOwed 28 = .ok (.iload 4, 2) := by decide +kernel
theorem dX0_sumOwed_30 : decode cX0_sumOwed 30 = .ok (.aload_n 0, 1) := by decide +kernel
theorem dX0_sumOwed_31 : decode cX0_sumOwed 31 = .ok (.getfield 42, 3) := by decide +kernel
theorem dX0_sumOwed_34 : decode cX0_sumOwed 34 = .ok (.iload 5, 2) := by decide +kernel
theorem dX0_sumOwed_36 : decode cX0_sumOwed 36 = .ok (.invokestatic 77, 3) := by decide +kernel
theorem dX0_sumOwed_39 : decode cX0_sumOwed 39 = .ok (.iadd, 1) := by decide +kernel
theorem dX0_sumOwed_40 : decode cX0_sumOwed 40 = .ok (.istore 4, 2) := by decide +kernel
theorem dX0_sumOwed_42 : decode cX0_sumOwed 42 = .ok (.iinc 5 1, 3) := by decide +kernel
theorem dX0_sumOwed_45 : decode cX0_sumOwed 45 = .ok (.goto (-39), 3) := by decide +kernel
theorem dX0_sumOwed_48 : decode cX0_sumOwed 48 = .ok (.iload 4, 2) := by decide +kernel
theorem dX0_sumOwed_50 : decode cX0_sumOwed 50 = .ok (.ireturn, 1) := by decide +kernel
set_option maxRecDepth 20000 in
theorem ggX0_weeksLeft_X4_at : GoodIn wsX0_weeksLeft wsX4_at := goodIn_r _ [5] (by decide +kernel) (by decide +kernel)
set_option maxRecDepth 20000 in
theorem gX0_weeksLeft_X4_at_n77 : GoodIn wsX0_weeksLeft (wsX4_at) := ggX0_weeksLeft_X4_at
set_option maxRecDepth 20000 in
theorem ggX0_weeksLeft_X0_number : GoodIn wsX0_weeksLeft wsX0_number := goodIn_r _ [10, 11, 12, 13, 14, 15, 16, 17, 18, 19, 20, 21, 22, 23, 24] (by decide +kernel) (by decide +kernel)
set_option maxRecDepth 20000 in
theorem gX0_weeksLeft_X0_number : GoodIn wsX0_weeksLeft (wsV RX0 63 RX0 yX0_number wsX0_number) := goodIn_app (goodIn_of _ (by decide +kernel)) ggX0_weeksLeft_X0_number
theorem dX0_weeksLeft_0 : decode cX0_weeksLeft 0 = .ok (.aload_n 0, 1) := by decide +kernel
theorem dX0_weeksLeft_1 : decode cX0_weeksLeft 1 = .ok (.bipush 20, 2) := by decide +kernel
theorem dX0_weeksLeft_3 : decode cX0_weeksLeft 3 = .ok (.aload_n 0, 1) := by decide +kernel
theorem dX0_weeksLeft_4 : decode cX0_weeksLeft 4 = .ok (.getfield 39, 3) := by decide +kernel
theorem dX0_weeksLeft_7 : decode cX0_weeksLeft 7 = .ok (.iload_n 1, 1) := by decide +kernel
theorem dX0_weeksLeft_8 : decode cX0_weeksLeft 8 = .ok (.invokestatic 77, 3) := by decide +kernel
theorem dX0_weeksLeft_11 : decode cX0_weeksLeft 11 = .ok (.iadd, 1) := by decide +kernel
theorem dX0_weeksLeft_12 : decode cX0_weeksLeft 12 = .ok (.invokevirtual 63, 3) := by decide +kernel
theorem dX0_weeksLeft_15 : decode cX0_weeksLeft 15 = .ok (.aload_n 0, 1) := by decide +kernel
theorem dX0_weeksLeft_16 : decode cX0_weeksLeft 16 = .ok (.getfield 45, 3) := by decide +kernel
theorem dX0_weeksLeft_19 : decode cX0_weeksLeft 19 = .ok (.iload_n 1, 1) := by decide +kernel
theorem dX0_weeksLeft_20 : decode cX0_weeksLeft 20 = .ok (.invokestatic 77, 3) := by decide +kernel
theorem dX0_weeksLeft_23 : decode cX0_weeksLeft 23 = .ok (.isub, 1) := by decide +kernel
theorem dX0_weeksLeft_24 : decode cX0_weeksLeft 24 = .ok (.ireturn, 1) := by decide +kernel
set_option maxRecDepth 20000 in
theorem ggX0_weeksUntilNextSpoils_X0_number : GoodIn wsX0_weeksUntilNextSpoils wsX0_number := goodIn_r _ [12, 13, 29, 30, 31, 32, 33, 34, 35, 36, 37, 38, 39, 40, 41] (by decide +kernel) (by decide +kernel)
set_option maxRecDepth 20000 in
theorem gX0_weeksUntilNextSpoils_X0_number : GoodIn wsX0_weeksUntilNextSpoils (wsV RX0 63 RX0 yX0_number wsX0_number) := goodIn_app (goodIn_of _ (by decide +kernel)) ggX0_weeksUntilNextSpoils_X0_number
set_option maxRecDepth 20000 in
theorem ggX0_weeksUntilNextSpoils_X0_isLotOf : GoodIn wsX0_weeksUntilNextSpoils wsX0_isLotOf := goodIn_r _ [17, 18, 19, 20, 29, 30, 31, 32, 33, 34, 35, 36, 37, 38, 39, 40, 41] (by decide +kernel) (by decide +kernel)
set_option maxRecDepth 20000 in
theorem gX0_weeksUntilNextSpoils_X0_isLotOf : GoodIn wsX0_weeksUntilNextSpoils (wsV RX0 94 RX0 yX0_isLotOf wsX0_isLotOf) := goodIn_app (goodIn_of _ (by decide +kernel)) ggX0_weeksUntilNextSpoils_X0_isLotOf
set_option maxRecDepth 20000 in
theorem ggX0_weeksUntilNextSpoils_X0_weeksLeft : GoodIn wsX0_weeksUntilNextSpoils wsX0_weeksLeft := goodIn_r _ [24, 20, 25, 26, 27, 28, 8, 9, 10, 11, 12, 13, 29, 30, 31, 32, 33, 34, 35, 36, 37, 38, 39, 40, 41] (by decide +kernel) (by decide +kernel)
set_option maxRecDepth 20000 in
theorem gX0_weeksUntilNextSpoils_X0_weeksLeft : GoodIn wsX0_weeksUntilNextSpoils (wsV RX0 98 RX0 yX0_weeksLeft wsX0_weeksLeft) := goodIn_app (goodIn_of _ (by decide +kernel)) ggX0_weeksUntilNextSpoils_X0_weeksLeft
theorem dX0_weeksUntilNextSpoils_0 : decode cX0_weeksUntilNextSpoils 0 = .ok (.iconst 0, 1) := by decide +kernel
theorem dX0_weeksUntilNextSpoils_1 : decode cX0_weeksUntilNextSpoils 1 = .ok (.istore_n 2, 1) := by decide +kernel
theorem dX0_weeksUntilNextSpoils_2 : decode cX0_weeksUntilNextSpoils 2 = .ok (.iconst 0, 1) := by decide +kernel
theorem dX0_weeksUntilNextSpoils_3 : decode cX0_weeksUntilNextSpoils 3 = .ok (.istore_n 3, 1) := by decide +kernel
theorem dX0_weeksUntilNextSpoils_4 : decode cX0_weeksUntilNextSpoils 4 = .ok (.iload_n 3, 1) := by decide +kernel
theorem dX0_weeksUntilNextSpoils_5 : decode cX0_weeksUntilNextSpoils 5 = .ok (.aload_n 0, 1) := by decide +kernel
theorem dX0_weeksUntilNextSpoils_6 : decode cX0_weeksUntilNextSpoils 6 = .ok (.iconst 2, 1) := by decide +kernel
theorem dX0_weeksUntilNextSpoils_7 : decode cX0_weeksUntilNextSpoils 7 = .ok (.invokevirtual 63, 3) := by decide +kernel
theorem dX0_weeksUntilNextSpoils_10 : decode cX0_weeksUntilNextSpoils 10 = .ok (.if_icmp .ge 47, 3) := by decide +kernel
theorem dX0_weeksUntilNextSpoils_13 : decode cX0_weeksUntilNextSpoils 13 = .ok (.aload_n 0, 1) := by decide +kernel
theorem dX0_weeksUntilNextSpoils_14 : decode cX0_weeksUntilNextSpoils 14 = .ok (.iload_n 3, 1) := by decide +kernel
theorem dX0_weeksUntilNextSpoils_15 : decode cX0_weeksUntilNextSpoils 15 = .ok (.iload_n 1, 1) := by decide +kernel
theorem dX0_weeksUntilNextSpoils_16 : decode cX0_weeksUntilNextSpoils 16 = .ok (.iconst (-1), 1) := by decide +kernel
theorem dX0_weeksUntilNextSpoils_17 : decode cX0_weeksUntilNextSpoils 17 = .ok (.iconst (-1), 1) := by decide +kernel
theorem dX0_weeksUntilNextSpoils_18 : decode cX0_weeksUntilNextSpoils 18 = .ok (.invokevirtual 94, 3) := by decide +kernel
theorem dX0_weeksUntilNextSpoils_21 : decode cX0_weeksUntilNextSpoils 21 = .ok (.ifCond .eq 30, 3) := by decide +kernel
theorem dX0_weeksUntilNextSpoils_24 : decode cX0_weeksUntilNextSpoils 24 = .ok (.iconst 1, 1) := by decide +kernel
theorem dX0_weeksUntilNextSpoils_25 : decode cX0_weeksUntilNextSpoils 25 = .ok (.aload_n 0, 1) := by decide +kernel
theorem dX0_weeksUntilNextSpoils_26 : decode cX0_weeksUntilNextSpoils 26 = .ok (.iload_n 3, 1) := by decide +kernel
theorem dX0_weeksUntilNextSpoils_27 : decode cX0_weeksUntilNextSpoils 27 = .ok (.invokevirtual 98, 3) := by decide +kernel
theorem dX0_weeksUntilNextSpoils_30 : decode cX0_weeksUntilNextSpoils 30 = .ok (.invokestatic 101, 3) := by decide +kernel
theorem dX0_weeksUntilNextSpoils_33 : decode cX0_weeksUntilNextSpoils 33 = .ok (.istore 4, 2) := by decide +kernel
theorem dX0_weeksUntilNextSpoils_35 : decode cX0_weeksUntilNextSpoils 35 = .ok (.iload_n 2, 1) := by decide +kernel
theorem dX0_weeksUntilNextSpoils_36 : decode cX0_weeksUntilNextSpoils 36 = .ok (.ifCond .ne 8, 3) := by decide +kernel
theorem dX0_weeksUntilNextSpoils_39 : decode cX0_weeksUntilNextSpoils 39 = .ok (.iload 4, 2) := by decide +kernel
theorem dX0_weeksUntilNextSpoils_41 : decode cX0_weeksUntilNextSpoils 41 = .ok (.goto 9, 3) := by decide +kernel
theorem dX0_weeksUntilNextSpoils_44 : decode cX0_weeksUntilNextSpoils 44 = .ok (.iload_n 2, 1) := by decide +kernel
theorem dX0_weeksUntilNextSpoils_45 : decode cX0_weeksUntilNextSpoils 45 = .ok (.iload 4, 2) := by decide +kernel
theorem dX0_weeksUntilNextSpoils_47 : decode cX0_weeksUntilNextSpoils 47 = .ok (.invokestatic 107, 3) := by decide +kernel
theorem dX0_weeksUntilNextSpoils_50 : decode cX0_weeksUntilNextSpoils 50 = .ok (.istore_n 2, 1) := by decide +kernel
theorem dX0_weeksUntilNextSpoils_51 : decode cX0_weeksUntilNextSpoils 51 = .ok (.iinc 3 1, 3) := by decide +kernel
theorem dX0_weeksUntilNextSpoils_54 : decode cX0_weeksUntilNextSpoils 54 = .ok (.goto (-50), 3) := by decide +kernel
theorem dX0_weeksUntilNextSpoils_57 : decode cX0_weeksUntilNextSpoils 57 = .ok (.iload_n 2, 1) := by decide +kernel
theorem dX0_weeksUntilNextSpoils_58 : decode cX0_weeksUntilNextSpoils 58 = .ok (.ireturn, 1) := by decide +kernel
set_option maxRecDepth 20000 in
theorem ggX0_addLot_X0_number : GoodIn wsX0_addLot wsX0_number := goodIn_r _ [12, 7, 18, 19, 20, 21, 22, 23, 24, 25, 26, 27, 28, 29, 30] (by decide +kernel) (by decide +kernel)
set_option maxRecDepth 20000 in
theorem gX0_addLot_X0_number : GoodIn wsX0_addLot (wsV RX0 63 RX0 yX0_number wsX0_number) := goodIn_app (goodIn_of _ (by decide +kernel)) ggX0_addLot_X0_number
set_option maxRecDepth 20000 in
theorem ggX0_addLot_X4_put : GoodIn wsX0_addLot wsX4_put := goodIn_r _ [15] (by decide +kernel) (by decide +kernel)
set_option maxRecDepth 20000 in
theorem gX0_addLot_X4_put_n55 : GoodIn wsX0_addLot (wsX4_put) := ggX0_addLot_X4_put
set_option maxRecDepth 20000 in
theorem ggX0_addLot_X4_add : GoodIn wsX0_addLot wsX4_add := goodIn_r _ [17] (by decide +kernel) (by decide +kernel)
set_option maxRecDepth 20000 in
theorem gX0_addLot_X4_add_n86 : GoodIn wsX0_addLot (wsX4_add) := ggX0_addLot_X4_add
theorem dX0_addLot_0 : decode cX0_addLot 0 = .ok (.aload_n 0, 1) := by decide +kernel
theorem dX0_addLot_1 : decode cX0_addLot 1 = .ok (.iconst 2, 1) := by decide +kernel
theorem dX0_addLot_2 : decode cX0_addLot 2 = .ok (.invokevirtual 63, 3) := by decide +kernel
theorem dX0_addLot_5 : decode cX0_addLot 5 = .ok (.istore 5, 2) := by decide +kernel
theorem dX0_addLot_7 : decode cX0_addLot 7 = .ok (.aload_n 0, 1) := by decide +kernel
theorem dX0_addLot_8 : decode cX0_addLot 8 = .ok (.getfield 33, 3) := by decide +kernel
theorem dX0_addLot_11 : decode cX0_addLot 11 = .ok (.iload 5, 2) := by decide +kernel
theorem dX0_addLot_13 : decode cX0_addLot 13 = .ok (.iload_n 1, 1) := by decide +kernel
theorem dX0_addLot_14 : decode cX0_addLot 14 = .ok (.invokestatic 55, 3) := by decide +kernel
theorem dX0_addLot_17 : decode cX0_addLot 17 = .ok (.aload_n 0, 1) := by decide +kernel
theorem dX0_addLot_18 : decode cX0_addLot 18 = .ok (.getfield 36, 3) := by decide +kernel
theorem dX0_addLot_21 : decode cX0_addLot 21 = .ok (.iload 5, 2) := by decide +kernel
theorem dX0_addLot_23 : decode cX0_addLot 23 = .ok (.iload_n 2, 1) := by decide +kernel
theorem dX0_addLot_24 : decode cX0_addLot 24 = .ok (.invokestatic 55, 3) := by decide +kernel
theorem dX0_addLot_27 : decode cX0_addLot 27 = .ok (.aload_n 0, 1) := by decide +kernel
theorem dX0_addLot_28 : decode cX0_addLot 28 = .ok (.getfield 39, 3) := by decide +kernel
theorem dX0_addLot_31 : decode cX0_addLot 31 = .ok (.iload 5, 2) := by decide +kernel
theorem dX0_addLot_33 : decode cX0_addLot 33 = .ok (.iload_n 3, 1) := by decide +kernel
theorem dX0_addLot_34 : decode cX0_addLot 34 = .ok (.invokestatic 55, 3) := by decide +kernel
theorem dX0_addLot_37 : decode cX0_addLot 37 = .ok (.aload_n 0, 1) := by decide +kernel
theorem dX0_addLot_38 : decode cX0_addLot 38 = .ok (.getfield 42, 3) := by decide +kernel
theorem dX0_addLot_41 : decode cX0_addLot 41 = .ok (.iload 5, 2) := by decide +kernel
theorem dX0_addLot_43 : decode cX0_addLot 43 = .ok (.iload 4, 2) := by decide +kernel
theorem dX0_addLot_45 : decode cX0_addLot 45 = .ok (.invokestatic 55, 3) := by decide +kernel
theorem dX0_addLot_48 : decode cX0_addLot 48 = .ok (.aload_n 0, 1) := by decide +kernel
theorem dX0_addLot_49 : decode cX0_addLot 49 = .ok (.getfield 45, 3) := by decide +kernel
theorem dX0_addLot_52 : decode cX0_addLot 52 = .ok (.iload 5, 2) := by decide +kernel
theorem dX0_addLot_54 : decode cX0_addLot 54 = .ok (.iconst 0, 1) := by decide +kernel
theorem dX0_addLot_55 : decode cX0_addLot 55 = .ok (.invokestatic 55, 3) := by decide +kernel
theorem dX0_addLot_58 : decode cX0_addLot 58 = .ok (.aload_n 0, 1) := by decide +kernel
theorem dX0_addLot_59 : decode cX0_addLot 59 = .ok (.getfield 48, 3) := by decide +kernel
theorem dX0_addLot_62 : decode cX0_addLot 62 = .ok (.iload 5, 2) := by decide +kernel
theorem dX0_addLot_64 : decode cX0_addLot 64 = .ok (.iconst 0, 1) := by decide +kernel
theorem dX0_addLot_65 : decode cX0_addLot 65 = .ok (.invokestatic 55, 3) := by decide +kernel
theorem dX0_addLot_68 : decode cX0_addLot 68 = .ok (.aload_n 0, 1) := by decide +kernel
theorem dX0_addLot_69 : decode cX0_addLot 69 = .ok (.getfield 9, 3) := by decide +kernel
theorem dX0_addLot_72 : decode cX0_addLot 72 = .ok (.iconst 2, 1) := by decide +kernel
theorem dX0_addLot_73 : decode cX0_addLot 73 = .ok (.iconst 1, 1) := by decide +kernel
theorem dX0_addLot_74 : decode cX0_addLot 74 = .ok (.invokestatic 86, 3) := by decide +kernel
theorem dX0_addLot_77 : decode cX0_addLot 77 = .ok (.return_, 1) := by decide +kernel
set_option maxRecDepth 20000 in
theorem ggX0_dropEmptyLots_X0_number : GoodIn wsX0_dropEmptyLots wsX0_number := goodIn_r _ [12, 7, 18, 19, 20, 21, 22, 23, 24, 25, 26, 27, 28, 29, 30] (by decide +kernel) (by decide +kernel)
set_option maxRecDepth 20000 in
theorem gX0_dropEmptyLots_X0_number : GoodIn wsX0_dropEmptyLots (wsV RX0 63 RX0 yX0_number wsX0_number) := goodIn_app (goodIn_of _ (by decide +kernel)) ggX0_dropEmptyLots_X0_number
set_option maxRecDepth 20000 in
theorem ggX0_dropEmptyLots_X4_at : GoodIn wsX0_dropEmptyLots wsX4_at := goodIn_r _ [15] (by decide +kernel) (by decide +kernel)
set_option maxRecDepth 20000 in
theorem gX0_dropEmptyLots_X4_at_n77 : GoodIn wsX0_dropEmptyLots (wsX4_at) := ggX0_dropEmptyLots_X4_at
set_option maxRecDepth 20000 in
theorem ggX0_dropEmptyLots_X4_put : GoodIn wsX0_dropEmptyLots wsX4_put := goodIn_r _ [17] (by decide +kernel) (by decide +kernel)
set_option maxRecDepth 20000 in
theorem gX0_dropEmptyLots_X4_put_n55 : GoodIn wsX0_dropEmptyLots (wsX4_put) := ggX0_dropEmptyLots_X4_put
theorem dX0_dropEmptyLots_0 : decode cX0_dropEmptyLots 0 = .ok (.iconst 0, 1) := by decide +kernel
theorem dX0_dropEmptyLots_1 : decode cX0_dropEmptyLots 1 = .ok (.istore_n 1, 1) := by decide +kernel
theorem dX0_dropEmptyLots_2 : decode cX0_dropEmptyLots 2 = .ok (.iconst 0, 1) := by decide +kernel
theorem dX0_dropEmptyLots_3 : decode cX0_dropEmptyLots 3 = .ok (.istore_n 2, 1) := by decide +kernel
theorem dX0_dropEmptyLots_4 : decode cX0_dropEmptyLots 4 = .ok (.iload_n 2, 1) := by decide +kernel
theorem dX0_dropEmptyLots_5 : decode cX0_dropEmptyLots 5 = .ok (.aload_n 0, 1) := by decide +kernel
theorem dX0_dropEmptyLots_6 : decode cX0_dropEmptyLots 6 = .ok (.iconst 2, 1) := by decide +kernel
theorem dX0_dropEmptyLots_7 : decode cX0_dropEmptyLots 7 = .ok (.invokevirtual 63, 3) := by decide +kernel
theorem dX0_dropEmptyLots_10 : decode cX0_dropEmptyLots 10 = .ok (.if_icmp .ge 119, 3) := by decide +kernel
theorem dX0_dropEmptyLots_13 : decode cX0_dropEmptyLots 13 = .ok (.aload_n 0, 1) := by decide +kernel
theorem dX0_dropEmptyLots_14 : decode cX0_dropEmptyLots 14 = .ok (.getfield 42, 3) := by decide +kernel
theorem dX0_dropEmptyLots_17 : decode cX0_dropEmptyLots 17 = .ok (.iload_n 2, 1) := by decide +kernel
theorem dX0_dropEmptyLots_18 : decode cX0_dropEmptyLots 18 = .ok (.invokestatic 77, 3) := by decide +kernel
theorem dX0_dropEmptyLots_21 : decode cX0_dropEmptyLots 21 = .ok (.ifCond .le 102, 3) := by decide +kernel
theorem dX0_dropEmptyLots_24 : decode cX0_dropEmptyLots 24 = .ok (.aload_n 0, 1) := by decide +kernel
theorem dX0_dropEmptyLots_25 : decode cX0_dropEmptyLots 25 = .ok (.getfield 33, 3) := by decide +kernel
theorem dX0_dropEmptyLots_28 : decode cX0_dropEmptyLots 28 = .ok (.iload_n 1, 1) := by decide +kernel
theorem dX0_dropEmptyLots_29 : decode cX0_dropEmptyLots 29 = .ok (.aload_n 0, 1) := by decide +kernel
theorem dX0_dropEmptyLots_30 : decode cX0_dropEmptyLots 30 = .ok (.getfield 33, 3) := by decide +kernel
theorem dX0_dropEmptyLots_33 : decode cX0_dropEmptyLots 33 = .ok (.iload_n 2, 1) := by decide +kernel
theorem dX0_dropEmptyLots_34 : decode cX0_dropEmptyLots 34 = .ok (.invokestatic 77, 3) := by decide +kernel
theorem dX0_dropEmptyLots_37 : decode cX0_dropEmptyLots 37 = .ok (.invokestatic 55, 3) := by decide +kernel
theorem dX0_dropEmptyLots_40 : decode cX0_dropEmptyLots 40 = .ok (.aload_n 0, 1) := by decide +kernel
theorem dX0_dropEmptyLots_41 : decode cX0_dropEmptyLots 41 = .ok (.getfield 36, 3) := by decide +kernel
theorem dX0_dropEmptyLots_44 : decode cX0_dropEmptyLots 44 = .ok (.iload_n 1, 1) := by decide +kernel
theorem dX0_dropEmptyLots_45 : decode cX0_dropEmptyLots 45 = .ok (.aload_n 0, 1) := by decide +kernel
theorem dX0_dropEmptyLots_46 : decode cX0_dropEmptyLots 46 = .ok (.getfield 36, 3) := by decide +kernel
theorem dX0_dropEmptyLots_49 : decode cX0_dropEmptyLots 49 = .ok (.iload_n 2, 1) := by decide +kernel
theorem dX0_dropEmptyLots_50 : decode cX0_dropEmptyLots 50 = .ok (.invokestatic 77, 3) := by decide +kernel
theorem dX0_dropEmptyLots_53 : decode cX0_dropEmptyLots 53 = .ok (.invokestatic 55, 3) := by decide +kernel
theorem dX0_dropEmptyLots_56 : decode cX0_dropEmptyLots 56 = .ok (.aload_n 0, 1) := by decide +kernel
theorem dX0_dropEmptyLots_57 : decode cX0_dropEmptyLots 57 = .ok (.getfield 39, 3) := by decide +kernel
theorem dX0_dropEmptyLots_60 : decode cX0_dropEmptyLots 60 = .ok (.iload_n 1, 1) := by decide +kernel
theorem dX0_dropEmptyLots_61 : decode cX0_dropEmptyLots 61 = .ok (.aload_n 0, 1) := by decide +kernel
theorem dX0_dropEmptyLots_62 : decode cX0_dropEmptyLots 62 = .ok (.getfield 39, 3) := by decide +kernel
theorem dX0_dropEmptyLots_65 : decode cX0_dropEmptyLots 65 = .ok (.iload_n 2, 1) := by decide +kernel
theorem dX0_dropEmptyLots_66 : decode cX0_dropEmptyLots 66 = .ok (.invokestatic 77, 3) := by decide +kernel
theorem dX0_dropEmptyLots_69 : decode cX0_dropEmptyLots 69 = .ok (.invokestatic 55, 3) := by decide +kernel
theorem dX0_dropEmptyLots_72 : decode cX0_dropEmptyLots 72 = .ok (.aload_n 0, 1) := by decide +kernel
theorem dX0_dropEmptyLots_73 : decode cX0_dropEmptyLots 73 = .ok (.getfield 42, 3) := by decide +kernel
theorem dX0_dropEmptyLots_76 : decode cX0_dropEmptyLots 76 = .ok (.iload_n 1, 1) := by decide +kernel
theorem dX0_dropEmptyLots_77 : decode cX0_dropEmptyLots 77 = .ok (.aload_n 0, 1) := by decide +kernel
theorem dX0_dropEmptyLots_78 : decode cX0_dropEmptyLots 78 = .ok (.getfield 42, 3) := by decide +kernel
theorem dX0_dropEmptyLots_81 : decode cX0_dropEmptyLots 81 = .ok (.iload_n 2, 1) := by decide +kernel
theorem dX0_dropEmptyLots_82 : decode cX0_dropEmptyLots 82 = .ok (.invokestatic 77, 3) := by decide +kernel
theorem dX0_dropEmptyLots_85 : decode cX0_dropEmptyLots 85 = .ok (.invokestatic 55, 3) := by decide +kernel
theorem dX0_dropEmptyLots_88 : decode cX0_dropEmptyLots 88 = .ok (.aload_n 0, 1) := by decide +kernel
theorem dX0_dropEmptyLots_89 : decode cX0_dropEmptyLots 89 = .ok (.getfield 45, 3) := by decide +kernel
theorem dX0_dropEmptyLots_92 : decode cX0_dropEmptyLots 92 = .ok (.iload_n 1, 1) := by decide +kernel
theorem dX0_dropEmptyLots_93 : decode cX0_dropEmptyLots 93 = .ok (.aload_n 0, 1) := by decide +kernel
theorem dX0_dropEmptyLots_94 : decode cX0_dropEmptyLots 94 = .ok (.getfield 45, 3) := by decide +kernel
theorem dX0_dropEmptyLots_97 : decode cX0_dropEmptyLots 97 = .ok (.iload_n 2, 1) := by decide +kernel
theorem dX0_dropEmptyLots_98 : decode cX0_dropEmptyLots 98 = .ok (.invokestatic 77, 3) := by decide +kernel
theorem dX0_dropEmptyLots_101 : decode cX0_dropEmptyLots 101 = .ok (.invokestatic 55, 3) := by decide +kernel
theorem dX0_dropEmptyLots_104 : decode cX0_dropEmptyLots 104 = .ok (.aload_n 0, 1) := by decide +kernel
theorem dX0_dropEmptyLots_105 : decode cX0_dropEmptyLots 105 = .ok (.getfield 48, 3) := by decide +kernel
theorem dX0_dropEmptyLots_108 : decode cX0_dropEmptyLots 108 = .ok (.iload_n 1, 1) := by decide +kernel
theorem dX0_dropEmptyLots_109 : decode cX0_dropEmptyLots 109 = .ok (.aload_n 0, 1) := by decide +kernel
theorem dX0_dropEmptyLots_110 : decode cX0_dropEmptyLots 110 = .ok (.getfield 48, 3) := by decide +kernel
theorem dX0_dropEmptyLots_113 : decode cX0_dropEmptyLots 113 = .ok (.iload_n 2, 1) := by decide +kernel
theorem dX0_dropEmptyLots_114 : decode cX0_dropEmptyLots 114 = .ok (.invokestatic 77, 3) := by decide +kernel
theorem dX0_dropEmptyLots_117 : decode cX0_dropEmptyLots 117 = .ok (.invokestatic 55, 3) := by decide +kernel
theorem dX0_dropEmptyLots_120 : decode cX0_dropEmptyLots 120 = .ok (.iinc 1 1, 3) := by decide +kernel
theorem dX0_dropEmptyLots_123 : decode cX0_dropEmptyLots 123 = .ok (.iinc 2 1, 3) := by decide +kernel
theorem dX0_dropEmptyLots_126 : decode cX0_dropEmptyLots 126 = .ok (.goto (-122), 3) := by decide +kernel
theorem dX0_dropEmptyLots_129 : decode cX0_dropEmptyLots 129 = .ok (.aload_n 0, 1) := by decide +kernel
theorem dX0_dropEmptyLots_130 : decode cX0_dropEmptyLots 130 = .ok (.getfield 9, 3) := by decide +kernel
theorem dX0_dropEmptyLots_133 : decode cX0_dropEmptyLots 133 = .ok (.iconst 2, 1) := by decide +kernel
theorem dX0_dropEmptyLots_134 : decode cX0_dropEmptyLots 134 = .ok (.iload_n 1, 1) := by decide +kernel
theorem dX0_dropEmptyLots_135 : decode cX0_dropEmptyLots 135 = .ok (.invokestatic 55, 3) := by decide +kernel
theorem dX0_dropEmptyLots_138 : decode cX0_dropEmptyLots 138 = .ok (.return_, 1) := by decide +kernel
set_option maxRecDepth 20000 in
theorem ggX0_firstToTake_X0_number : GoodIn wsX0_firstToTake wsX0_number := goodIn_r _ [7, 8, 19, 20, 21, 22, 23, 24, 25, 26, 27, 28, 29, 30, 31] (by decide +kernel) (by decide +kernel)
set_option maxRecDepth 20000 in
theorem gX0_firstToTake_X0_number : GoodIn wsX0_firstToTake (wsV RX0 63 RX0 yX0_number wsX0_number) := goodIn_app (goodIn_of _ (by decide +kernel)) ggX0_firstToTake_X0_number
set_option maxRecDepth 20000 in
theorem ggX0_firstToTake_X0_isLotOf : GoodIn wsX0_firstToTake wsX0_isLotOf := goodIn_r _ [12, 13, 14, 15, 19, 20, 21, 22, 23, 24, 25, 26, 27, 28, 29, 30, 31] (by decide +kernel) (by decide +kernel)
set_option maxRecDepth 20000 in
theorem gX0_firstToTake_X0_isLotOf : GoodIn wsX0_firstToTake (wsV RX0 94 RX0 yX0_isLotOf wsX0_isLotOf) := goodIn_app (goodIn_of _ (by decide +kernel)) ggX0_firstToTake_X0_isLotOf
set_option maxRecDepth 20000 in
theorem ggX0_firstToTake_X4_at : GoodIn wsX0_firstToTake wsX4_at := goodIn_r _ [18] (by decide +kernel) (by decide +kernel)
set_option maxRecDepth 20000 in
theorem gX0_firstToTake_X4_at_n77 : GoodIn wsX0_firstToTake (wsX4_at) := ggX0_firstToTake_X4_at
theorem dX0_firstToTake_0 : decode cX0_firstToTake 0 = .ok (.iconst (-1), 1) := by decide +kernel
theorem dX0_firstToTake_1 : decode cX0_firstToTake 1 = .ok (.istore 4, 2) := by decide +kernel
theorem dX0_firstToTake_3 : decode cX0_firstToTake 3 = .ok (.iconst 0, 1) := by decide +kernel
theorem dX0_firstToTake_4 : decode cX0_firstToTake 4 = .ok (.istore 5, 2) := by decide +kernel
theorem dX0_firstToTake_6 : decode cX0_firstToTake 6 = .ok (.iload 5, 2) := by decide +kernel
theorem dX0_firstToTake_8 : decode cX0_firstToTake 8 = .ok (.aload_n 0, 1) := by decide +kernel
theorem dX0_firstToTake_9 : decode cX0_firstToTake 9 = .ok (.iconst 2, 1) := by decide +kernel
theorem dX0_firstToTake_10 : decode cX0_firstToTake 10 = .ok (.invokevirtual 63, 3) := by decide +kernel
theorem dX0_firstToTake_13 : decode cX0_firstToTake 13 = .ok (.if_icmp .ge 63, 3) := by decide +kernel
theorem dX0_firstToTake_16 : decode cX0_firstToTake 16 = .ok (.aload_n 0, 1) := by decide +kernel
theorem dX0_firstToTake_17 : decode cX0_firstToTake 17 = .ok (.iload 5, 2) := by decide +kernel
theorem dX0_firstToTake_19 : decode cX0_firstToTake 19 = .ok (.iload_n 1, 1) := by decide +kernel
theorem dX0_firstToTake_20 : decode cX0_firstToTake 20 = .ok (.iload_n 2, 1) := by decide +kernel
theorem dX0_firstToTake_21 : decode cX0_firstToTake 21 = .ok (.iload_n 3, 1) := by decide +kernel
theorem dX0_firstToTake_22 : decode cX0_firstToTake 22 = .ok (.invokevirtual 94, 3) := by decide +kernel
theorem dX0_firstToTake_25 : decode cX0_firstToTake 25 = .ok (.ifCond .eq 45, 3) := by decide +kernel
theorem dX0_firstToTake_28 : decode cX0_firstToTake 28 = .ok (.aload_n 0, 1) := by decide +kernel
theorem dX0_firstToTake_29 : decode cX0_firstToTake 29 = .ok (.getfield 42, 3) := by decide +kernel
theorem dX0_firstToTake_32 : decode cX0_firstToTake 32 = .ok (.iload 5, 2) := by decide +kernel
theorem dX0_firstToTake_34 : decode cX0_firstToTake 34 = .ok (.invokestatic 77, 3) := by decide +kernel
theorem dX0_firstToTake_37 : decode cX0_firstToTake 37 = .ok (.ifCond .le 33, 3) := by decide +kernel
theorem dX0_firstToTake_40 : decode cX0_firstToTake 40 = .ok (.iload 4, 2) := by decide +kernel
theorem dX0_firstToTake_42 : decode cX0_firstToTake 42 = .ok (.ifCond .lt 24, 3) := by decide +kernel
theorem dX0_firstToTake_45 : decode cX0_firstToTake 45 = .ok (.aload_n 0, 1) := by decide +kernel
theorem dX0_firstToTake_46 : decode cX0_firstToTake 46 = .ok (.getfield 45, 3) := by decide +kernel
theorem dX0_firstToTake_49 : decode cX0_firstToTake 49 = .ok (.iload 5, 2) := by decide +kernel
theorem dX0_firstToTake_51 : decode cX0_firstToTake 51 = .ok (.invokestatic 77, 3) := by decide +kernel
theorem dX0_firstToTake_54 : decode cX0_firstToTake 54 = .ok (.aload_n 0, 1) := by decide +kernel
theorem dX0_firstToTake_55 : decode cX0_firstToTake 55 = .ok (.getfield 45, 3) := by decide +kernel
theorem dX0_firstToTake_58 : decode cX0_firstToTake 58 = .ok (.iload 4, 2) := by decide +kernel
theorem dX0_firstToTake_60 : decode cX0_firstToTake 60 = .ok (.invokestatic 77, 3) := by decide +kernel
theorem dX0_firstToTake_63 : decode cX0_firstToTake 63 = .ok (.if_icmp .le 7, 3) := by decide +kernel
theorem dX0_firstToTake_66 : decode cX0_firstToTake 66 = .ok (.iload 5, 2) := by decide +kernel
theorem dX0_firstToTake_68 : decode cX0_firstToTake 68 = .ok (.istore 4, 2) := by decide +kernel
theorem dX0_firstToTake_70 : decode cX0_firstToTake 70 = .ok (.iinc 5 1, 3) := by decide +kernel
theorem dX0_firstToTake_73 : decode cX0_firstToTake 73 = .ok (.goto (-67), 3) := by decide +kernel
theorem dX0_firstToTake_76 : decode cX0_firstToTake 76 = .ok (.iload 4, 2) := by decide +kernel
theorem dX0_firstToTake_78 : decode cX0_firstToTake 78 = .ok (.ireturn, 1) := by decide +kernel
set_option maxRecDepth 20000 in
theorem ggX0_takeFavours_X0_firstToTake : GoodIn wsX0_takeFavours wsX0_firstToTake := goodIn_r _ [10, 1, 11, 12, 13, 14, 9, 15, 16, 17, 18, 19, 20, 21, 22, 23, 24, 25, 26, 36, 37, 38, 39, 40, 41, 42, 43, 44, 45, 46, 47, 48] (by decide +kernel) (by decide +kernel)
set_option maxRecDepth 20000 in
theorem gX0_takeFavours_X0_firstToTake : GoodIn wsX0_takeFavours (wsV RX0 110 RX0 yX0_firstToTake wsX0_firstToTake) := goodIn_app (goodIn_of _ (by decide +kernel)) ggX0_takeFavours_X0_firstToTake
set_option maxRecDepth 20000 in
theorem ggX0_takeFavours_X4_at : GoodIn wsX0_takeFavours wsX4_at := goodIn_r _ [26] (by decide +kernel) (by decide +kernel)
set_option maxRecDepth 20000 in
theorem gX0_takeFavours_X4_at_n77 : GoodIn wsX0_takeFavours (wsX4_at) := ggX0_takeFavours_X4_at
set_option maxRecDepth 20000 in
theorem ggX0_takeFavours_X4_add : GoodIn wsX0_takeFavours wsX4_add := goodIn_r _ [28] (by decide +kernel) (by decide +kernel)
set_option maxRecDepth 20000 in
theorem gX0_takeFavours_X4_add_n86 : GoodIn wsX0_takeFavours (wsX4_add) := ggX0_takeFavours_X4_add
set_option maxRecDepth 20000 in
theorem ggX0_takeFavours_X0_dropEmptyLots : GoodIn wsX0_takeFavours wsX0_dropEmptyLots := goodIn_r _ [32, 1, 21, 22, 23, 11, 33, 16, 12, 13, 14, 9, 15, 24, 25, 26, 34, 35, 36, 37, 38, 39, 40, 41, 42, 43, 44, 45, 46, 47, 48] (by decide +kernel) (by decide +kernel)
set_option maxRecDepth 20000 in
theorem gX0_takeFavours_X0_dropEmptyLots : GoodIn wsX0_takeFavours (wsV RX0 113 RX0 yX0_dropEmptyLots wsX0_dropEmptyLots) := goodIn_app (goodIn_of _ (by decide +kernel)) ggX0_takeFavours_X0_dropEmptyLots
theorem dX0_takeFavours_0 : decode cX0_takeFavours 0 = .ok (.iload 4, 2) := by decide +kernel
theorem dX0_takeFavours_2 : decode cX0_takeFavours 2 = .ok (.istore 5, 2) := by decide +kernel
theorem dX0_takeFavours_4 : decode cX0_takeFavours 4 = .ok (.iconst 0, 1) := by decide +kernel
theorem dX0_takeFavours_5 : decode cX0_takeFavours 5 = .ok (.istore 6, 2) := by decide +kernel
theorem dX0_takeFavours_7 : decode cX0_takeFavours 7 = .ok (.iload 6, 2) := by decide +kernel
theorem dX0_takeFavours_9 : decode cX0_takeFavours 9 = .ok (.bipush 40, 2) := by decide +kernel
theorem dX0_takeFavours_11 : decode cX0_takeFavours 11 = .ok (.if_icmp .ge 58, 3) := by decide +kernel
theorem dX0_takeFavours_14 : decode cX0_takeFavours 14 = .ok (.iload 5, 2) := by decide +kernel
theorem dX0_takeFavours_16 : decode cX0_takeFavours 16 = .ok (.ifCond .le 53, 3) := by decide +kernel
theorem dX0_takeFavours_19 : decode cX0_takeFavours 19 = .ok (.aload_n 0, 1) := by decide +kernel
theorem dX0_takeFavours_20 : decode cX0_takeFavours 20 = .ok (.iload_n 1, 1) := by decide +kernel
theorem dX0_takeFavours_21 : decode cX0_takeFavours 21 = .ok (.iload_n 2, 1) := by decide +kernel
theorem dX0_takeFavours_22 : decode cX0_takeFavours 22 = .ok (.iload_n 3, 1) := by decide +kernel
theorem dX0_takeFavours_23 : decode cX0_takeFavours 23 = .ok (.invokevirtual 110, 3) := by decide +kernel
theorem dX0_takeFavours_26 : decode cX0_takeFavours 26 = .ok (.istore 7, 2) := by decide +kernel
theorem dX0_takeFavours_28 : decode cX0_takeFavours 28 = .ok (.iload 5, 2) := by decide +kernel
theorem dX0_takeFavours_30 : decode cX0_takeFavours 30 = .ok (.aload_n 0, 1) := by decide +kernel
theorem dX0_takeFavours_31 : decode cX0_takeFavours 31 = .ok (.getfield 42, 3) := by decide +kernel
theorem dX0_takeFavours_34 : decode cX0_takeFavours 34 = .ok (.iload 7, 2) := by decide +kernel
theorem dX0_takeFavours_36 : decode cX0_takeFavours 36 = .ok (.invokestatic 77, 3) := by decide +kernel
theorem dX0_takeFavours_39 : decode cX0_takeFavours 39 = .ok (.invokestatic 107, 3) := by decide +kernel
theorem dX0_takeFavours_42 : decode cX0_takeFavours 42 = .ok (.istore 8, 2) := by decide +kernel
theorem dX0_takeFavours_44 : decode cX0_takeFavours 44 = .ok (.aload_n 0, 1) := by decide +kernel
theorem dX0_takeFavours_45 : decode cX0_takeFavours 45 = .ok (.getfield 42, 3) := by decide +kernel
theorem dX0_takeFavours_48 : decode cX0_takeFavours 48 = .ok (.iload 7, 2) := by decide +kernel
theorem dX0_takeFavours_50 : decode cX0_takeFavours 50 = .ok (.iload 8, 2) := by decide +kernel
theorem dX0_takeFavours_52 : decode cX0_takeFavours 52 = .ok (.ineg, 1) := by decide +kernel
theorem dX0_takeFavours_53 : decode cX0_takeFavours 53 = .ok (.invokestatic 86, 3) := by decide +kernel
theorem dX0_takeFavours_56 : decode cX0_takeFavours 56 = .ok (.iload 5, 2) := by decide +kernel
theorem dX0_takeFavours_58 : decode cX0_takeFavours 58 = .ok (.iload 8, 2) := by decide +kernel
theorem dX0_takeFavours_60 : decode cX0_takeFavours 60 = .ok (.isub, 1) := by decide +kernel
theorem dX0_takeFavours_61 : decode cX0_takeFavours 61 = .ok (.istore 5, 2) := by decide +kernel
theorem dX0_takeFavours_63 : decode cX0_takeFavours 63 = .ok (.iinc 6 1, 3) := by decide +kernel
theorem dX0_takeFavours_66 : decode cX0_takeFavours 66 = .ok (.goto (-59), 3) := by decide +kernel
theorem dX0_takeFavours_69 : decode cX0_takeFavours 69 = .ok (.aload_n 0, 1) := by decide +kernel
theorem dX0_takeFavours_70 : decode cX0_takeFavours 70 = .ok (.invokevirtual 113, 3) := by decide +kernel
theorem dX0_takeFavours_73 : decode cX0_takeFavours 73 = .ok (.return_, 1) := by decide +kernel
set_option maxRecDepth 20000 in
theorem ggX0_reasonAgainst_X0_sumOwed : GoodIn wsX0_reasonAgainst wsX0_sumOwed := goodIn_r _ [6, 7, 8, 9, 10, 5, 11, 12, 13, 14, 15, 16, 17, 18, 19, 20, 21, 22, 28, 29, 30, 31, 32, 33, 34, 35, 36, 37, 38, 39, 40] (by decide +kernel) (by decide +kernel)
set_option maxRecDepth 20000 in
theorem gX0_reasonAgainst_X0_sumOwed : GoodIn wsX0_reasonAgainst (wsV RX0 70 RX0 yX0_sumOwed wsX0_sumOwed) := goodIn_app (goodIn_of _ (by decide +kernel)) ggX0_reasonAgainst_X0_sumOwed
set_option maxRecDepth 20000 in
theorem ggX0_reasonAgainst_X0_number : GoodIn wsX0_reasonAgainst wsX0_number := goodIn_r _ [11, 12, 28, 29, 30, 31, 32, 33, 34, 35, 36, 37, 38, 39, 40] (by decide +kernel) (by decide +kernel)
set_option maxRecDepth 20000 in
theorem gX0_reasonAgainst_X0_number : GoodIn wsX0_reasonAgainst (wsV RX0 63 RX0 yX0_number wsX0_number) := goodIn_app (goodIn_of _ (by decide +kernel)) ggX0_reasonAgainst_X0_number
set_option maxRecDepth 20000 in
theorem ggX0_reasonAgainst_X4_at : GoodIn wsX0_reasonAgainst wsX4_at := goodIn_r _ [22] (by decide +kernel) (by decide +kernel)
set_option maxRecDepth 20000 in
theorem gX0_reasonAgainst_X4_at_n77 : GoodIn wsX0_reasonAgainst (wsX4_at) := ggX0_reasonAgainst_X4_at
set_option maxRecDepth 20000 in
theorem ggX0_reasonAgainst_X0_guarantorOf : GoodIn wsX0_reasonAgainst wsX0_guarantorOf := goodIn_r _ [26, 27, 28, 29, 30, 31, 32, 33, 34, 35, 36, 37, 38, 39, 40] (by decide +kernel) (by decide +kernel)
set_option maxRecDepth 20000 in
theorem gX0_reasonAgainst_X0_guarantorOf : GoodIn wsX0_reasonAgainst (wsV RX0 81 RX0 yX0_guarantorOf wsX0_guarantorOf) := goodIn_app (goodIn_of _ (by decide +kernel)) ggX0_reasonAgainst_X0_guarantorOf
theorem dX0_reasonAgainst_0 : decode cX0_reasonAgainst 0 = .ok (.aload_n 0, 1) := by decide +kernel
theorem dX0_reasonAgainst_1 : decode cX0_reasonAgainst 1 = .ok (.iload_n 1, 1) := by decide +kernel
theorem dX0_reasonAgainst_2 : decode cX0_reasonAgainst 2 = .ok (.iconst (-1), 1) := by decide +kernel
theorem dX0_reasonAgainst_3 : decode cX0_reasonAgainst 3 = .ok (.iconst (-1), 1) := by decide +kernel
theorem dX0_reasonAgainst_4 : decode cX0_reasonAgainst 4 = .ok (.invokevirtual 70, 3) := by decide +kernel
theorem dX0_reasonAgainst_7 : decode cX0_reasonAgainst 7 = .ok (.iload_n 2, 1) := by decide +kernel
theorem dX0_reasonAgainst_8 : decode cX0_reasonAgainst 8 = .ok (.iadd, 1) := by decide +kernel
theorem dX0_reasonAgainst_9 : decode cX0_reasonAgainst 9 = .ok (.aload_n 0, 1) := by decide +kernel
theorem dX0_reasonAgainst_10 : decode cX0_reasonAgainst 10 = .ok (.bipush 24, 2) := by decide +kernel
theorem dX0_reasonAgainst_12 : decode cX0_reasonAgainst 12 = .ok (.invokevirtual 63, 3) := by decide +kernel
theorem dX0_reasonAgainst_15 : decode cX0_reasonAgainst 15 = .ok (.if_icmp .le 5, 3) := by decide +kernel
theorem dX0_reasonAgainst_18 : decode cX0_reasonAgainst 18 = .ok (.iconst 1, 1) := by decide +kernel
theorem dX0_reasonAgainst_19 : decode cX0_reasonAgainst 19 = .ok (.ireturn, 1) := by decide +kernel
theorem dX0_reasonAgainst_20 : decode cX0_reasonAgainst 20 = .ok (.aload_n 0, 1) := by decide +kernel
theorem dX0_reasonAgainst_21 : decode cX0_reasonAgainst 21 = .ok (.getfield 21, 3) := by decide +kernel
theorem dX0_reasonAgainst_24 : decode cX0_reasonAgainst 24 = .ok (.iload_n 1, 1) := by decide +kernel
theorem dX0_reasonAgainst_25 : decode cX0_reasonAgainst 25 = .ok (.invokestatic 77, 3) := by decide +kernel
theorem dX0_reasonAgainst_28 : decode cX0_reasonAgainst 28 = .ok (.aload_n 0, 1) := by decide +kernel
theorem dX0_reasonAgainst_29 : decode cX0_reasonAgainst 29 = .ok (.bipush 25, 2) := by decide +kernel
theorem dX0_reasonAgainst_31 : decode cX0_reasonAgainst 31 = .ok (.invokevirtual 63, 3) := by decide +kernel
theorem dX0_reasonAgainst_34 : decode cX0_reasonAgainst 34 = .ok (.if_icmp .lt 7, 3) := by decide +kernel
theorem dX0_reasonAgainst_37 : decode cX0_reasonAgainst 37 = .ok (.iconst 1, 1) := by decide +kernel
theorem dX0_reasonAgainst_38 : decode cX0_reasonAgainst 38 = .ok (.goto 4, 3) := by decide +kernel
theorem dX0_reasonAgainst_41 : decode cX0_reasonAgainst 41 = .ok (.iconst 0, 1) := by decide +kernel
theorem dX0_reasonAgainst_42 : decode cX0_reasonAgainst 42 = .ok (.istore_n 3, 1) := by decide +kernel
theorem dX0_reasonAgainst_43 : decode cX0_reasonAgainst 43 = .ok (.iload_n 3, 1) := by decide +kernel
theorem dX0_reasonAgainst_44 : decode cX0_reasonAgainst 44 = .ok (.ifCond .eq 15, 3) := by decide +kernel
theorem dX0_reasonAgainst_47 : decode cX0_reasonAgainst 47 = .ok (.aload_n 0, 1) := by decide +kernel
theorem dX0_reasonAgainst_48 : decode cX0_reasonAgainst 48 = .ok (.iload_n 1, 1) := by decide +kernel
theorem dX0_reasonAgainst_49 : decode cX0_reasonAgainst 49 = .ok (.invokevirtual 81, 3) := by decide +kernel
theorem dX0_reasonAgainst_52 : decode cX0_reasonAgainst 52 = .ok (.ifCond .ge 7, 3) := by decide +kernel
theorem dX0_reasonAgainst_55 : decode cX0_reasonAgainst 55 = .ok (.iconst 2, 1) := by decide +kernel
theorem dX0_reasonAgainst_56 : decode cX0_reasonAgainst 56 = .ok (.goto 4, 3) := by decide +kernel
theorem dX0_reasonAgainst_59 : decode cX0_reasonAgainst 59 = .ok (.iconst 0, 1) := by decide +kernel
theorem dX0_reasonAgainst_60 : decode cX0_reasonAgainst 60 = .ok (.ireturn, 1) := by decide +kernel
set_option maxRecDepth 20000 in
theorem ggX0_lendFavours_X0_isPair : GoodIn wsX0_lendFavours wsX0_isPair := goodIn_r _ [10, 11, 12, 13, 9, 14, 15, 16, 17, 18, 5, 58, 59, 60, 61, 62, 63, 64, 65, 66, 67, 68, 69, 70] (by decide +kernel) (by decide +kernel)
set_option maxRecDepth 20000 in
theorem gX0_lendFavours_X0_isPair : GoodIn wsX0_lendFavours (wsV RX0 89 RX0 yX0_isPair wsX0_isPair) := goodIn_app (goodIn_of _ (by decide +kernel)) ggX0_lendFavours_X0_isPair
set_option maxRecDepth 20000 in
theorem ggX0_lendFavours_X4_isKind : GoodIn wsX0_lendFavours wsX4_isKind := goodIn_r _ [21] (by decide +kernel) (by decide +kernel)
set_option maxRecDepth 20000 in
theorem gX0_lendFavours_X4_isKind_n116 : GoodIn wsX0_lendFavours (wsX4_isKind) := ggX0_lendFavours_X4_isKind
set_option maxRecDepth 20000 in
theorem ggX0_lendFavours_X4_isMany : GoodIn wsX0_lendFavours wsX4_isMany := goodIn_r _ [23] (by decide +kernel) (by decide +kernel)
set_option maxRecDepth 20000 in
theorem gX0_lendFavours_X4_isMany_n119 : GoodIn wsX0_lendFavours (wsX4_isMany) := ggX0_lendFavours_X4_isMany
set_option maxRecDepth 20000 in
theorem ggX0_lendFavours_X0_reasonAgainst : GoodIn wsX0_lendFavours wsX0_reasonAgainst := goodIn_r _ [27, 28, 29, 30, 31, 9, 32, 33, 15, 16, 17, 18, 5, 34, 35, 36, 37, 38, 39, 40, 41, 20, 42, 43, 44, 45, 46, 47, 58, 59, 60, 61, 62, 63, 64, 65, 66, 67, 68, 69, 70] (by decide +kernel) (by decide +kernel)
set_option maxRecDepth 20000 in
theorem gX0_lendFavours_X0_reasonAgainst : GoodIn wsX0_lendFavours (wsV RX0 122 RX0 yX0_reasonAgainst wsX0_reasonAgainst) := goodIn_app (goodIn_of _ (by decide +kernel)) ggX0_lendFavours_X0_reasonAgainst
set_option maxRecDepth 20000 in
theorem ggX0_lendFavours_X0_number : GoodIn wsX0_lendFavours wsX0_number := goodIn_r _ [18, 5, 58, 59, 60, 61, 62, 63, 64, 65, 66, 67, 68, 69, 70] (by decide +kernel) (by decide +kernel)
set_option maxRecDepth 20000 in
theorem gX0_lendFavours_X0_number : GoodIn wsX0_lendFavours (wsV RX0 63 RX0 yX0_number wsX0_number) := goodIn_app (goodIn_of _ (by decide +kernel)) ggX0_lendFavours_X0_number
set_option maxRecDepth 20000 in
theorem ggX0_lendFavours_X0_addLot : GoodIn wsX0_lendFavours wsX0_addLot := goodIn_r _ [51, 38, 39, 40, 33, 52, 53, 5, 15, 16, 17, 9, 18, 54, 20, 55, 56, 57, 58, 59, 60, 61, 62, 63, 64, 65, 66, 67, 68, 69, 70] (by decide +kernel) (by decide +kernel)
set_option maxRecDepth 20000 in
theorem gX0_lendFavours_X0_addLot : GoodIn wsX0_lendFavours (wsV RX0 126 RX0 yX0_addLot wsX0_addLot) := goodIn_app (goodIn_of _ (by decide +kernel)) ggX0_lendFavours_X0_addLot
set_option maxRecDepth 20000 in
theorem ggX0_lendFavours_X4_add : GoodIn wsX0_lendFavours wsX4_add := goodIn_r _ [57] (by decide +kernel) (by decide +kernel)
set_option maxRecDepth 20000 in
theorem gX0_lendFavours_X4_add_n86 : GoodIn wsX0_lendFavours (wsX4_add) := ggX0_lendFavours_X4_add
set_option maxRecDepth 20000 in
theorem ggX0_lendFavours_X0_sumOwed : GoodIn wsX0_lendFavours wsX0_sumOwed := goodIn_r _ [32, 33, 15, 16, 17, 9, 18, 5, 34, 35, 36, 37, 38, 39, 40, 41, 20, 42, 58, 59, 60, 61, 62, 63, 64, 65, 66, 67, 68, 69, 70] (by decide +kernel) (by decide +kernel)
set_option maxRecDepth 20000 in
theorem gX0_lendFavours_X0_sumOwed : GoodIn wsX0_lendFavours (wsV RX0 70 RX0 yX0_sumOwed wsX0_sumOwed) := goodIn_app (goodIn_of _ (by decide +kernel)) ggX0_lendFavours_X0_sumOwed
theorem dX0_lendFavours_0 : decode cX0_lendFavours 0 = .ok (.aload_n 0, 1) := by decide +kernel
theorem dX0_lendFavours_1 : decode cX0_lendFavours 1 = .ok (.iload_n 1, 1) := by decide +kernel
theorem dX0_lendFavours_2 : decode cX0_lendFavours 2 = .ok (.iload_n 2, 1) := by decide +kernel
theorem dX0_lendFavours_3 : decode cX0_lendFavours 3 = .ok (.invokevirtual 89, 3) := by decide +kernel
theorem dX0_lendFavours_6 : decode cX0_lendFavours 6 = .ok (.ifCond .eq 18, 3) := by decide +kernel
theorem dX0_lendFavours_9 : decode cX0_lendFavours 9 = .ok (.iload_n 3, 1) := by decide +kernel
theorem dX0_lendFavours_10 : decode cX0_lendFavours 10 = .ok (.invokestatic 116, 3) := by decide +kernel
theorem dX0_lendFavours_13 : decode cX0_lendFavours 13 = .ok (.ifCond .eq 11, 3) := by decide +kernel
theorem dX0_lendFavours_16 : decode cX0_lendFavours 16 = .ok (.iload 4, 2) := by decide +kernel
theorem dX0_lendFavours_18 : decode cX0_lendFavours 18 = .ok (.invokestatic 119, 3) := by decide +kernel
theorem dX0_lendFavours_21 : decode cX0_lendFavours 21 = .ok (.ifCond .ne 6, 3) := by decide +kernel
theorem dX0_lendFavours_24 : decode cX0_lendFavours 24 = .ok (.ldc 93, 2) := by decide +kernel
theorem dX0_lendFavours_26 : decode cX0_lendFavours 26 = .ok (.ireturn, 1) := by decide +kernel
theorem dX0_lendFavours_27 : decode cX0_lendFavours 27 = .ok (.aload_n 0, 1) := by decide +kernel
theorem dX0_lendFavours_28 : decode cX0_lendFavours 28 = .ok (.iload_n 1, 1) := by decide +kernel
theorem dX0_lendFavours_29 : decode cX0_lendFavours 29 = .ok (.iload 4, 2) := by decide +kernel
theorem dX0_lendFavours_31 : decode cX0_lendFavours 31 = .ok (.invokevirtual 122, 3) := by decide +kernel
theorem dX0_lendFavours_34 : decode cX0_lendFavours 34 = .ok (.ifCond .eq 6, 3) := by decide +kernel
theorem dX0_lendFavours_37 : decode cX0_lendFavours 37 = .ok (.ldc 125, 2) := by decide +kernel
theorem dX0_lendFavours_39 : decode cX0_lendFavours 39 = .ok (.ireturn, 1) := by decide +kernel
theorem dX0_lendFavours_40 : decode cX0_lendFavours 40 = .ok (.aload_n 0, 1) := by decide +kernel
theorem dX0_lendFavours_41 : decode cX0_lendFavours 41 = .ok (.iconst 2, 1) := by decide +kernel
theorem dX0_lendFavours_42 : decode cX0_lendFavours 42 = .ok (.invokevirtual 63, 3) := by decide +kernel
theorem dX0_lendFavours_45 : decode cX0_lendFavours 45 = .ok (.bipush 40, 2) := by decide +kernel
theorem dX0_lendFavours_47 : decode cX0_lendFavours 47 = .ok (.if_icmp .lt 6, 3) := by decide +kernel
theorem dX0_lendFavours_50 : decode cX0_lendFavours 50 = .ok (.ldc 85, 2) := by decide +kernel
theorem dX0_lendFavours_52 : decode cX0_lendFavours 52 = .ok (.ireturn, 1) := by decide +kernel
theorem dX0_lendFavours_53 : decode cX0_lendFavours 53 = .ok (.aload_n 0, 1) := by decide +kernel
theorem dX0_lendFavours_54 : decode cX0_lendFavours 54 = .ok (.iload_n 1, 1) := by decide +kernel
theorem dX0_lendFavours_55 : decode cX0_lendFavours 55 = .ok (.iload_n 2, 1) := by decide +kernel
theorem dX0_lendFavours_56 : decode cX0_lendFavours 56 = .ok (.iload_n 3, 1) := by decide +kernel
theorem dX0_lendFavours_57 : decode cX0_lendFavours 57 = .ok (.iload 4, 2) := by decide +kernel
theorem dX0_lendFavours_59 : decode cX0_lendFavours 59 = .ok (.invokevirtual 126, 3) := by decide +kernel
theorem dX0_lendFavours_62 : decode cX0_lendFavours 62 = .ok (.aload_n 0, 1) := by decide +kernel
theorem dX0_lendFavours_63 : decode cX0_lendFavours 63 = .ok (.getfield 15, 3) := by decide +kernel
theorem dX0_lendFavours_66 : decode cX0_lendFavours 66 = .ok (.iload_n 1, 1) := by decide +kernel
theorem dX0_lendFavours_67 : decode cX0_lendFavours 67 = .ok (.iload 4, 2) := by decide +kernel
theorem dX0_lendFavours_69 : decode cX0_lendFavours 69 = .ok (.ineg, 1) := by decide +kernel
theorem dX0_lendFavours_70 : decode cX0_lendFavours 70 = .ok (.invokestatic 86, 3) := by decide +kernel
theorem dX0_lendFavours_73 : decode cX0_lendFavours 73 = .ok (.aload_n 0, 1) := by decide +kernel
theorem dX0_lendFavours_74 : decode cX0_lendFavours 74 = .ok (.getfield 15, 3) := by decide +kernel
theorem dX0_lendFavours_77 : decode cX0_lendFavours 77 = .ok (.iload_n 2, 1) := by decide +kernel
theorem dX0_lendFavours_78 : decode cX0_lendFavours 78 = .ok (.iload 4, 2) := by decide +kernel
theorem dX0_lendFavours_80 : decode cX0_lendFavours 80 = .ok (.invokestatic 86, 3) := by decide +kernel
theorem dX0_lendFavours_83 : decode cX0_lendFavours 83 = .ok (.aload_n 0, 1) := by decide +kernel
theorem dX0_lendFavours_84 : decode cX0_lendFavours 84 = .ok (.getfield 9, 3) := by decide +kernel
theorem dX0_lendFavours_87 : decode cX0_lendFavours 87 = .ok (.iconst 4, 1) := by decide +kernel
theorem dX0_lendFavours_88 : decode cX0_lendFavours 88 = .ok (.iload 4, 2) := by decide +kernel
theorem dX0_lendFavours_90 : decode cX0_lendFavours 90 = .ok (.invokestatic 86, 3) := by decide +kernel
theorem dX0_lendFavours_93 : decode cX0_lendFavours 93 = .ok (.aload_n 0, 1) := by decide +kernel
theorem dX0_lendFavours_94 : decode cX0_lendFavours 94 = .ok (.iload_n 1, 1) := by decide +kernel
theorem dX0_lendFavours_95 : decode cX0_lendFavours 95 = .ok (.iload_n 2, 1) := by decide +kernel
theorem dX0_lendFavours_96 : decode cX0_lendFavours 96 = .ok (.iload_n 3, 1) := by decide +kernel
theorem dX0_lendFavours_97 : decode cX0_lendFavours 97 = .ok (.invokevirtual 70, 3) := by decide +kernel
theorem dX0_lendFavours_100 : decode cX0_lendFavours 100 = .ok (.ireturn, 1) := by decide +kernel
set_option maxRecDepth 20000 in
theorem ggX0_fulfilFavours_X0_isPair : GoodIn wsX0_fulfilFavours wsX0_isPair := goodIn_r _ [10, 11, 12, 13, 9, 14, 15, 16, 17, 18, 5, 60, 61, 62, 63, 64, 65, 66, 67, 68, 69, 70, 71, 72] (by decide +kernel) (by decide +kernel)
set_option maxRecDepth 20000 in
theorem gX0_fulfilFavours_X0_isPair : GoodIn wsX0_fulfilFavours (wsV RX0 89 RX0 yX0_isPair wsX0_isPair) := goodIn_app (goodIn_of _ (by decide +kernel)) ggX0_fulfilFavours_X0_isPair
set_option maxRecDepth 20000 in
theorem ggX0_fulfilFavours_X4_isKind : GoodIn wsX0_fulfilFavours wsX4_isKind := goodIn_r _ [21] (by decide +kernel) (by decide +kernel)
set_option maxRecDepth 20000 in
theorem gX0_fulfilFavours_X4_isKind_n116 : GoodIn wsX0_fulfilFavours (wsX4_isKind) := ggX0_fulfilFavours_X4_isKind
set_option maxRecDepth 20000 in
theorem ggX0_fulfilFavours_X4_isMany : GoodIn wsX0_fulfilFavours wsX4_isMany := goodIn_r _ [23] (by decide +kernel) (by decide +kernel)
set_option maxRecDepth 20000 in
theorem gX0_fulfilFavours_X4_isMany_n119 : GoodIn wsX0_fulfilFavours (wsX4_isMany) := ggX0_fulfilFavours_X4_isMany
set_option maxRecDepth 20000 in
theorem ggX0_fulfilFavours_X0_sumOwed : GoodIn wsX0_fulfilFavours wsX0_sumOwed := goodIn_r _ [27, 28, 15, 16, 17, 9, 18, 5, 29, 30, 31, 32, 33, 34, 35, 36, 20, 37, 60, 61, 62, 63, 64, 65, 66, 67, 68, 69, 70, 71, 72] (by decide +kernel) (by decide +kernel)
set_option maxRecDepth 20000 in
theorem gX0_fulfilFavours_X0_sumOwed : GoodIn wsX0_fulfilFavours (wsV RX0 70 RX0 yX0_sumOwed wsX0_sumOwed) := goodIn_app (goodIn_of _ (by decide +kernel)) ggX0_fulfilFavours_X0_sumOwed
set_option maxRecDepth 20000 in
theorem ggX0_fulfilFavours_X0_takeFavours : GoodIn wsX0_fulfilFavours wsX0_takeFavours := goodIn_r _ [41, 28, 42, 43, 44, 45, 46, 47, 48, 9, 49, 50, 15, 16, 17, 18, 5, 29, 30, 31, 32, 33, 34, 35, 36, 20, 37, 51, 52, 53, 54, 55, 56, 57, 58, 59, 60, 61, 62, 63, 64, 65, 66, 67, 68, 69, 70, 71, 72] (by decide +kernel) (by decide +kernel)
set_option maxRecDepth 20000 in
theorem gX0_fulfilFavours_X0_takeFavours : GoodIn wsX0_fulfilFavours (wsV RX0 130 RX0 yX0_takeFavours wsX0_takeFavours) := goodIn_app (goodIn_of _ (by decide +kernel)) ggX0_fulfilFavours_X0_takeFavours
set_option maxRecDepth 20000 in
theorem ggX0_fulfilFavours_X4_add : GoodIn wsX0_fulfilFavours wsX4_add := goodIn_r _ [52] (by decide +kernel) (by decide +kernel)
set_option maxRecDepth 20000 in
theorem gX0_fulfilFavours_X4_add_n86 : GoodIn wsX0_fulfilFavours (wsX4_add) := ggX0_fulfilFavours_X4_add
theorem dX0_fulfilFavours_0 : decode cX0_fulfilFavours 0 = .ok (.aload_n 0, 1) := by decide +kernel
theorem dX0_fulfilFavours_1 : decode cX0_fulfilFavours 1 = .ok (.iload_n 1, 1) := by decide +kernel
theorem dX0_fulfilFavours_2 : decode cX0_fulfilFavours 2 = .ok (.iload_n 2, 1) := by decide +kernel
theorem dX0_fulfilFavours_3 : decode cX0_fulfilFavours 3 = .ok (.invokevirtual 89, 3) := by decide +kernel
theorem dX0_fulfilFavours_6 : decode cX0_fulfilFavours 6 = .ok (.ifCond .eq 18, 3) := by decide +kernel
theorem dX0_fulfilFavours_9 : decode cX0_fulfilFavours 9 = .ok (.iload_n 3, 1) := by decide +kernel
theorem dX0_fulfilFavours_10 : decode cX0_fulfilFavours 10 = .ok (.invokestatic 116, 3) := by decide +kernel
theorem dX0_fulfilFavours_13 : decode cX0_fulfilFavours 13 = .ok (.ifCond .eq 11, 3) := by decide +kernel
theorem dX0_fulfilFavours_16 : decode cX0_fulfilFavours 16 = .ok (.iload 4, 2) := by decide +kernel
theorem dX0_fulfilFavours_18 : decode cX0_fulfilFavours 18 = .ok (.invokestatic 119, 3) := by decide +kernel
theorem dX0_fulfilFavours_21 : decode cX0_fulfilFavours 21 = .ok (.ifCond .ne 6, 3) := by decide +kernel
theorem dX0_fulfilFavours_24 : decode cX0_fulfilFavours 24 = .ok (.ldc 93, 2) := by decide +kernel
theorem dX0_fulfilFavours_26 : decode cX0_fulfilFavours 26 = .ok (.ireturn, 1) := by decide +kernel
theorem dX0_fulfilFavours_27 : decode cX0_fulfilFavours 27 = .ok (.aload_n 0, 1) := by decide +kernel
theorem dX0_fulfilFavours_28 : decode cX0_fulfilFavours 28 = .ok (.iload_n 1, 1) := by decide +kernel
theorem dX0_fulfilFavours_29 : decode cX0_fulfilFavours 29 = .ok (.iload_n 2, 1) := by decide +kernel
theorem dX0_fulfilFavours_30 : decode cX0_fulfilFavours 30 = .ok (.iload_n 3, 1) := by decide +kernel
theorem dX0_fulfilFavours_31 : decode cX0_fulfilFavours 31 = .ok (.invokevirtual 70, 3) := by decide +kernel
theorem dX0_fulfilFavours_34 : decode cX0_fulfilFavours 34 = .ok (.iload 4, 2) := by decide +kernel
theorem dX0_fulfilFavours_36 : decode cX0_fulfilFavours 36 = .ok (.if_icmp .ge 6, 3) := by decide +kernel
theorem dX0_fulfilFavours_39 : decode cX0_fulfilFavours 39 = .ok (.ldc 125, 2) := by decide +kernel
theorem dX0_fulfilFavours_41 : decode cX0_fulfilFavours 41 = .ok (.ireturn, 1) := by decide +kernel
theorem dX0_fulfilFavours_42 : decode cX0_fulfilFavours 42 = .ok (.aload_n 0, 1) := by decide +kernel
theorem dX0_fulfilFavours_43 : decode cX0_fulfilFavours 43 = .ok (.iload_n 1, 1) := by decide +kernel
theorem dX0_fulfilFavours_44 : decode cX0_fulfilFavours 44 = .ok (.iload_n 2, 1) := by decide +kernel
theorem dX0_fulfilFavours_45 : decode cX0_fulfilFavours 45 = .ok (.iload_n 3, 1) := by decide +kernel
theorem dX0_fulfilFavours_46 : decode cX0_fulfilFavours 46 = .ok (.iload 4, 2) := by decide +kernel
theorem dX0_fulfilFavours_48 : decode cX0_fulfilFavours 48 = .ok (.invokevirtual 130, 3) := by decide +kernel
theorem dX0_fulfilFavours_51 : decode cX0_fulfilFavours 51 = .ok (.aload_n 0, 1) := by decide +kernel
theorem dX0_fulfilFavours_52 : decode cX0_fulfilFavours 52 = .ok (.getfield 15, 3) := by decide +kernel
theorem dX0_fulfilFavours_55 : decode cX0_fulfilFavours 55 = .ok (.iload_n 1, 1) := by decide +kernel
theorem dX0_fulfilFavours_56 : decode cX0_fulfilFavours 56 = .ok (.iload 4, 2) := by decide +kernel
theorem dX0_fulfilFavours_58 : decode cX0_fulfilFavours 58 = .ok (.invokestatic 86, 3) := by decide +kernel
theorem dX0_fulfilFavours_61 : decode cX0_fulfilFavours 61 = .ok (.aload_n 0, 1) := by decide +kernel
theorem dX0_fulfilFavours_62 : decode cX0_fulfilFavours 62 = .ok (.getfield 15, 3) := by decide +kernel
theorem dX0_fulfilFavours_65 : decode cX0_fulfilFavours 65 = .ok (.iload_n 2, 1) := by decide +kernel
theorem dX0_fulfilFavours_66 : decode cX0_fulfilFavours 66 = .ok (.iload 4, 2) := by decide +kernel
theorem dX0_fulfilFavours_68 : decode cX0_fulfilFavours 68 = .ok (.ineg, 1) := by decide +kernel
theorem dX0_fulfilFavours_69 : decode cX0_fulfilFavours 69 = .ok (.invokestatic 86, 3) := by decide +kernel
theorem dX0_fulfilFavours_72 : decode cX0_fulfilFavours 72 = .ok (.aload_n 0, 1) := by decide +kernel
theorem dX0_fulfilFavours_73 : decode cX0_fulfilFavours 73 = .ok (.getfield 18, 3) := by decide +kernel
theorem dX0_fulfilFavours_76 : decode cX0_fulfilFavours 76 = .ok (.iload_n 1, 1) := by decide +kernel
theorem dX0_fulfilFavours_77 : decode cX0_fulfilFavours 77 = .ok (.iload 4, 2) := by decide +kernel
theorem dX0_fulfilFavours_79 : decode cX0_fulfilFavours 79 = .ok (.invokestatic 86, 3) := by decide +kernel
theorem dX0_fulfilFavours_82 : decode cX0_fulfilFavours 82 = .ok (.aload_n 0, 1) := by decide +kernel
theorem dX0_fulfilFavours_83 : decode cX0_fulfilFavours 83 = .ok (.getfield 9, 3) := by decide +kernel
theorem dX0_fulfilFavours_86 : decode cX0_fulfilFavours 86 = .ok (.iconst 5, 1) := by decide +kernel
theorem dX0_fulfilFavours_87 : decode cX0_fulfilFavours 87 = .ok (.iload 4, 2) := by decide +kernel
theorem dX0_fulfilFavours_89 : decode cX0_fulfilFavours 89 = .ok (.invokestatic 86, 3) := by decide +kernel
theorem dX0_fulfilFavours_92 : decode cX0_fulfilFavours 92 = .ok (.aload_n 0, 1) := by decide +kernel
theorem dX0_fulfilFavours_93 : decode cX0_fulfilFavours 93 = .ok (.iload_n 1, 1) := by decide +kernel
theorem dX0_fulfilFavours_94 : decode cX0_fulfilFavours 94 = .ok (.iload_n 2, 1) := by decide +kernel
theorem dX0_fulfilFavours_95 : decode cX0_fulfilFavours 95 = .ok (.iload_n 3, 1) := by decide +kernel
theorem dX0_fulfilFavours_96 : decode cX0_fulfilFavours 96 = .ok (.invokevirtual 70, 3) := by decide +kernel
theorem dX0_fulfilFavours_99 : decode cX0_fulfilFavours 99 = .ok (.ireturn, 1) := by decide +kernel
set_option maxRecDepth 20000 in
theorem ggX0_countCleared_X4_add : GoodIn wsX0_countCleared wsX4_add := goodIn_r _ [5] (by decide +kernel) (by decide +kernel)
set_option maxRecDepth 20000 in
theorem gX0_countCleared_X4_add_n86 : GoodIn wsX0_countCleared (wsX4_add) := ggX0_countCleared_X4_add
theorem dX0_countCleared_0 : decode cX0_countCleared 0 = .ok (.aload_n 0, 1) := by decide +kernel
theorem dX0_countCleared_1 : decode cX0_countCleared 1 = .ok (.getfield 30, 3) := by decide +kernel
theorem dX0_countCleared_4 : decode cX0_countCleared 4 = .ok (.iload_n 1, 1) := by decide +kernel
theorem dX0_countCleared_5 : decode cX0_countCleared 5 = .ok (.iload_n 2, 1) := by decide +kernel
theorem dX0_countCleared_6 : decode cX0_countCleared 6 = .ok (.invokestatic 86, 3) := by decide +kernel
theorem dX0_countCleared_9 : decode cX0_countCleared 9 = .ok (.aload_n 0, 1) := by decide +kernel
theorem dX0_countCleared_10 : decode cX0_countCleared 10 = .ok (.getfield 9, 3) := by decide +kernel
theorem dX0_countCleared_13 : decode cX0_countCleared 13 = .ok (.bipush 7, 2) := by decide +kernel
theorem dX0_countCleared_15 : decode cX0_countCleared 15 = .ok (.iload_n 2, 1) := by decide +kernel
theorem dX0_countCleared_16 : decode cX0_countCleared 16 = .ok (.invokestatic 86, 3) := by decide +kernel
theorem dX0_countCleared_19 : decode cX0_countCleared 19 = .ok (.return_, 1) := by decide +kernel
set_option maxRecDepth 20000 in
theorem ggX0_countRing_X4_add : GoodIn wsX0_countRing wsX4_add := goodIn_r _ [4] (by decide +kernel) (by decide +kernel)
set_option maxRecDepth 20000 in
theorem gX0_countRing_X4_add_n86 : GoodIn wsX0_countRing (wsX4_add) := ggX0_countRing_X4_add
theorem dX0_countRing_0 : decode cX0_countRing 0 = .ok (.aload_n 0, 1) := by decide +kernel
theorem dX0_countRing_1 : decode cX0_countRing 1 = .ok (.getfield 9, 3) := by decide +kernel
theorem dX0_countRing_4 : decode cX0_countRing 4 = .ok (.bipush 9, 2) := by decide +kernel
theorem dX0_countRing_6 : decode cX0_countRing 6 = .ok (.iconst 1, 1) := by decide +kernel
theorem dX0_countRing_7 : decode cX0_countRing 7 = .ok (.invokestatic 86, 3) := by decide +kernel
theorem dX0_countRing_10 : decode cX0_countRing 10 = .ok (.return_, 1) := by decide +kernel
set_option maxRecDepth 20000 in
theorem ggX0_endWeeks_X0_number : GoodIn wsX0_endWeeks wsX0_number := goodIn_r _ [7, 8, 54, 55, 56, 57, 58, 59, 60, 61, 62, 63, 64, 65, 66] (by decide +kernel) (by decide +kernel)
set_option maxRecDepth 20000 in
theorem gX0_endWeeks_X0_number : GoodIn wsX0_endWeeks (wsV RX0 63 RX0 yX0_number wsX0_number) := goodIn_app (goodIn_of _ (by decide +kernel)) ggX0_endWeeks_X0_number
set_option maxRecDepth 20000 in
theorem ggX0_endWeeks_X0_endWeek : GoodIn wsX0_endWeeks wsX0_endWeek := goodIn_r _ [12, 8, 13, 14, 15, 16, 17, 18, 19, 6, 20, 3, 4, 5, 7, 21, 22, 23, 24, 25, 26, 27, 28, 29, 30, 31, 32, 33, 34, 35, 36, 37, 38, 39, 40, 41, 42, 43, 44, 45, 46, 47, 48, 49, 50, 51, 52, 53, 54, 55, 56, 57, 58, 59, 60, 61, 62, 63, 64, 65, 66] (by decide +kernel) (by decide +kernel)
set_option maxRecDepth 20000 in
theorem gX0_endWeeks_X0_endWeek : GoodIn wsX0_endWeeks (wsV RX0 133 RX0 yX0_endWeek wsX0_endWeek) := goodIn_app (goodIn_of _ (by decide +kernel)) ggX0_endWeeks_X0_endWeek
theorem dX0_endWeeks_0 : decode cX0_endWeeks 0 = .ok (.iload_n 1, 1) := by decide +kernel
theorem dX0_endWeeks_1 : decode cX0_endWeeks 1 = .ok (.iconst 1, 1) := by decide +kernel
theorem dX0_endWeeks_2 : decode cX0_endWeeks 2 = .ok (.if_icmp .lt 9, 3) := by decide +kernel
theorem dX0_endWeeks_5 : decode cX0_endWeeks 5 = .ok (.iload_n 1, 1) := by decide +kernel
theorem dX0_endWeeks_6 : decode cX0_endWeeks 6 = .ok (.bipush 20, 2) := by decide +kernel
theorem dX0_endWeeks_8 : decode cX0_endWeeks 8 = .ok (.if_icmp .le 6, 3) := by decide +kernel
theorem dX0_endWeeks_11 : decode cX0_endWeeks 11 = .ok (.ldc 93, 2) := by decide +kernel
theorem dX0_endWeeks_13 : decode cX0_endWeeks 13 = .ok (.ireturn, 1) := by decide +kernel
theorem dX0_endWeeks_14 : decode cX0_endWeeks 14 = .ok (.aload_n 0, 1) := by decide +kernel
theorem dX0_endWeeks_15 : decode cX0_endWeeks 15 = .ok (.iconst 0, 1) := by decide +kernel
theorem dX0_endWeeks_16 : decode cX0_endWeeks 16 = .ok (.invokevirtual 63, 3) := by decide +kernel
theorem dX0_endWeeks_19 : decode cX0_endWeeks 19 = .ok (.iload_n 1, 1) := by decide +kernel
theorem dX0_endWeeks_20 : decode cX0_endWeeks 20 = .ok (.iadd, 1) := by decide +kernel
theorem dX0_endWeeks_21 : decode cX0_endWeeks 21 = .ok (.sipush 999, 3) := by decide +kernel
theorem dX0_endWeeks_24 : decode cX0_endWeeks 24 = .ok (.if_icmp .le 6, 3) := by decide +kernel
theorem dX0_endWeeks_27 : decode cX0_endWeeks 27 = .ok (.ldc 85, 2) := by decide +kernel
theorem dX0_endWeeks_29 : decode cX0_endWeeks 29 = .ok (.ireturn, 1) := by decide +kernel
theorem dX0_endWeeks_30 : decode cX0_endWeeks 30 = .ok (.aload_n 0, 1) := by decide +kernel
theorem dX0_endWeeks_31 : decode cX0_endWeeks 31 = .ok (.bipush 6, 2) := by decide +kernel
theorem dX0_endWeeks_33 : decode cX0_endWeeks 33 = .ok (.invokevirtual 63, 3) := by decide +kernel
theorem dX0_endWeeks_36 : decode cX0_endWeeks 36 = .ok (.istore_n 2, 1) := by decide +kernel
theorem dX0_endWeeks_37 : decode cX0_endWeeks 37 = .ok (.iconst 0, 1) := by decide +kernel
theorem dX0_endWeeks_38 : decode cX0_endWeeks 38 = .ok (.istore_n 3, 1) := by decide +kernel
theorem dX0_endWeeks_39 : decode cX0_endWeeks 39 = .ok (.iload_n 3, 1) := by decide +kernel
theorem dX0_endWeeks_40 : decode cX0_endWeeks 40 = .ok (.iload_n 1, 1) := by decide +kernel
theorem dX0_endWeeks_41 : decode cX0_endWeeks 41 = .ok (.if_icmp .ge 13, 3) := by decide +kernel
theorem dX0_endWeeks_44 : decode cX0_endWeeks 44 = .ok (.aload_n 0, 1) := by decide +kernel
theorem dX0_endWeeks_45 : decode cX0_endWeeks 45 = .ok (.invokevirtual 133, 3) := by decide +kernel
theorem dX0_endWeeks_48 : decode cX0_endWeeks 48 = .ok (.iinc 3 1, 3) := by decide +kernel
theorem dX0_endWeeks_51 : decode cX0_endWeeks 51 = .ok (.goto (-12), 3) := by decide +kernel
theorem dX0_endWeeks_54 : decode cX0_endWeeks 54 = .ok (.aload_n 0, 1) := by decide +kernel
theorem dX0_endWeeks_55 : decode cX0_endWeeks 55 = .ok (.bipush 6, 2) := by decide +kernel
theorem dX0_endWeeks_57 : decode cX0_endWeeks 57 = .ok (.invokevirtual 63, 3) := by decide +kernel
theorem dX0_endWeeks_60 : decode cX0_endWeeks 60 = .ok (.iload_n 2, 1) := by decide +kernel
theorem dX0_endWeeks_61 : decode cX0_endWeeks 61 = .ok (.isub, 1) := by decide +kernel
theorem dX0_endWeeks_62 : decode cX0_endWeeks 62 = .ok (.ireturn, 1) := by decide +kernel
set_option maxRecDepth 20000 in
theorem ggX0_endWeek_X4_add : GoodIn wsX0_endWeek wsX4_add := goodIn_r _ [5] (by decide +kernel) (by decide +kernel)
set_option maxRecDepth 20000 in
theorem gX0_endWeek_X4_add_n86 : GoodIn wsX0_endWeek (wsX4_add) := ggX0_endWeek_X4_add
set_option maxRecDepth 20000 in
theorem ggX0_endWeek_X0_hasHolidays : GoodIn wsX0_endWeek wsX0_hasHolidays := goodIn_r _ [10, 11, 12, 13, 9, 14, 1, 48, 49, 50, 51, 52, 53, 54, 55, 56, 57, 58, 59, 60] (by decide +kernel) (by decide +kernel)
set_option maxRecDepth 20000 in
theorem gX0_endWeek_X0_hasHolidays : GoodIn wsX0_endWeek (wsV RX0 136 RX0 yX0_hasHolidays wsX0_hasHolidays) := goodIn_app (goodIn_of _ (by decide +kernel)) ggX0_endWeek_X0_hasHolidays
set_option maxRecDepth 20000 in
theorem ggX0_endWeek_X0_number : GoodIn wsX0_endWeek wsX0_number := goodIn_r _ [14, 1, 48, 49, 50, 51, 52, 53, 54, 55, 56, 57, 58, 59, 60] (by decide +kernel) (by decide +kernel)
set_option maxRecDepth 20000 in
theorem gX0_endWeek_X0_number : GoodIn wsX0_endWeek (wsV RX0 63 RX0 yX0_number wsX0_number) := goodIn_app (goodIn_of _ (by decide +kernel)) ggX0_endWeek_X0_number
set_option maxRecDepth 20000 in
theorem ggX0_endWeek_X0_weeksLeft : GoodIn wsX0_endWeek wsX0_weeksLeft := goodIn_r _ [18, 19, 2, 20, 4, 21, 11, 12, 13, 9, 14, 1, 48, 49, 50, 51, 52, 53, 54, 55, 56, 57, 58, 59, 60] (by decide +kernel) (by decide +kernel)
set_option maxRecDepth 20000 in
theorem gX0_endWeek_X0_weeksLeft : GoodIn wsX0_endWeek (wsV RX0 98 RX0 yX0_weeksLeft wsX0_weeksLeft) := goodIn_app (goodIn_of _ (by decide +kernel)) ggX0_endWeek_X0_weeksLeft
set_option maxRecDepth 20000 in
theorem ggX0_endWeek_X0_passToGuarantor : GoodIn wsX0_endWeek wsX0_passToGuarantor := goodIn_r _ [25, 26, 27, 28, 29, 2, 30, 31, 1, 20, 4, 21, 32, 33, 34, 9, 35, 36, 37, 38, 3, 5, 48, 49, 50, 51, 52, 53, 54, 55, 56, 57, 58, 59, 60] (by decide +kernel) (by decide +kernel)
set_option maxRecDepth 20000 in
theorem gX0_endWeek_X0_passToGuarantor : GoodIn wsX0_endWeek (wsV RX0 140 RX0 yX0_passToGuarantor wsX0_passToGuarantor) := goodIn_app (goodIn_of _ (by decide +kernel)) ggX0_endWeek_X0_passToGuarantor
set_option maxRecDepth 20000 in
theorem ggX0_endWeek_X0_spoilLot : GoodIn wsX0_endWeek wsX0_spoilLot := goodIn_r _ [42, 26, 29, 30, 27, 43, 1, 20, 4, 21, 37, 38, 3, 5, 48, 49, 50, 51, 52, 53, 54, 55, 56, 57, 58, 59, 60] (by decide +kernel) (by decide +kernel)
set_option maxRecDepth 20000 in
theorem gX0_endWeek_X0_spoilLot : GoodIn wsX0_endWeek (wsV RX0 143 RX0 yX0_spoilLot wsX0_spoilLot) := goodIn_app (goodIn_of _ (by decide +kernel)) ggX0_endWeek_X0_spoilLot
set_option maxRecDepth 20000 in
theorem ggX0_endWeek_X0_dropEmptyLots : GoodIn wsX0_endWeek wsX0_dropEmptyLots := goodIn_r _ [47, 29, 26, 27, 19, 2, 28, 1, 11, 12, 13, 9, 14, 20, 4, 21, 37, 38, 48, 49, 50, 51, 52, 53, 54, 55, 56, 57, 58, 59, 60] (by decide +kernel) (by decide +kernel)
set_option maxRecDepth 20000 in
theorem gX0_endWeek_X0_dropEmptyLots : GoodIn wsX0_endWeek (wsV RX0 113 RX0 yX0_dropEmptyLots wsX0_dropEmptyLots) := goodIn_app (goodIn_of _ (by decide +kernel)) ggX0_endWeek_X0_dropEmptyLots
theorem dX0_endWeek_0 : decode cX0_endWeek 0 = .ok (.aload_n 0, 1) := by decide +kernel
theorem dX0_endWeek_1 : decode cX0_endWeek 1 = .ok (.getfield 9, 3) := by decide +kernel
theorem dX0_endWeek_4 : decode cX0_endWeek 4 = .ok (.iconst 0, 1) := by decide +kernel
theorem dX0_endWeek_5 : decode cX0_endWeek 5 = .ok (.iconst 1, 1) := by decide +kernel
theorem dX0_endWeek_6 : decode cX0_endWeek 6 = .ok (.invokestatic 86, 3) := by decide +kernel
theorem dX0_endWeek_9 : decode cX0_endWeek 9 = .ok (.aload_n 0, 1) := by decide +kernel
theorem dX0_endWeek_10 : decode cX0_endWeek 10 = .ok (.invokevirtual 136, 3) := by decide +kernel
theorem dX0_endWeek_13 : decode cX0_endWeek 13 = .ok (.ifCond .eq 4, 3) := by decide +kernel
theorem dX0_endWeek_16 : decode cX0_endWeek 16 = .ok (.return_, 1) := by decide +kernel
theorem dX0_endWeek_17 : decode cX0_endWeek 17 = .ok (.iconst 0, 1) := by decide +kernel
theorem dX0_endWeek_18 : decode cX0_endWeek 18 = .ok (.istore_n 1, 1) := by decide +kernel
theorem dX0_endWeek_19 : decode cX0_endWeek 19 = .ok (.iload_n 1, 1) := by decide +kernel
theorem dX0_endWeek_20 : decode cX0_endWeek 20 = .ok (.aload_n 0, 1) := by decide +kernel
theorem dX0_endWeek_21 : decode cX0_endWeek 21 = .ok (.iconst 2, 1) := by decide +kernel
theorem dX0_endWeek_22 : decode cX0_endWeek 22 = .ok (.invokevirtual 63, 3) := by decide +kernel
theorem dX0_endWeek_25 : decode cX0_endWeek 25 = .ok (.if_icmp .ge 39, 3) := by decide +kernel
theorem dX0_endWeek_28 : decode cX0_endWeek 28 = .ok (.aload_n 0, 1) := by decide +kernel
theorem dX0_endWeek_29 : decode cX0_endWeek 29 = .ok (.getfield 45, 3) := by decide +kernel
theorem dX0_endWeek_32 : decode cX0_endWeek 32 = .ok (.iload_n 1, 1) := by decide +kernel
theorem dX0_endWeek_33 : decode cX0_endWeek 33 = .ok (.iconst 1, 1) := by decide +kernel
theorem dX0_endWeek_34 : decode cX0_endWeek 34 = .ok (.invokestatic 86, 3) := by decide +kernel
theorem dX0_endWeek_37 : decode cX0_endWeek 37 = .ok (.aload_n 0, 1) := by decide +kernel
theorem dX0_endWeek_38 : decode cX0_endWeek 38 = .ok (.iload_n 1, 1) := by decide +kernel
theorem dX0_endWeek_39 : decode cX0_endWeek 39 = .ok (.invokevirtual 98, 3) := by decide +kernel
theorem dX0_endWeek_42 : decode cX0_endWeek 42 = .ok (.ifCond .gt 16, 3) := by decide +kernel
theorem dX0_endWeek_45 : decode cX0_endWeek 45 = .ok (.aload_n 0, 1) := by decide +kernel
theorem dX0_endWeek_46 : decode cX0_endWeek 46 = .ok (.iload_n 1, 1) := by decide +kernel
theorem dX0_endWeek_47 : decode cX0_endWeek 47 = .ok (.invokevirtual 140, 3) := by decide +kernel
theorem dX0_endWeek_50 : decode cX0_endWeek 50 = .ok (.ifCond .ne 8, 3) := by decide +kernel
theorem dX0_endWeek_53 : decode cX0_endWeek 53 = .ok (.aload_n 0, 1) := by decide +kernel
theorem dX0_endWeek_54 : decode cX0_endWeek 54 = .ok (.iload_n 1, 1) := by decide +kernel
theorem dX0_endWeek_55 : decode cX0_endWeek 55 = .ok (.invokevirtual 143, 3) := by decide +kernel
theorem dX0_endWeek_58 : decode cX0_endWeek 58 = .ok (.iinc 1 1, 3) := by decide +kernel
theorem dX0_endWeek_61 : decode cX0_endWeek 61 = .ok (.goto (-42), 3) := by decide +kernel
theorem dX0_endWeek_64 : decode cX0_endWeek 64 = .ok (.aload_n 0, 1) := by decide +kernel
theorem dX0_endWeek_65 : decode cX0_endWeek 65 = .ok (.invokevirtual 113, 3) := by decide +kernel
theorem dX0_endWeek_68 : decode cX0_endWeek 68 = .ok (.return_, 1) := by decide +kernel
set_option maxRecDepth 20000 in
theorem ggX0_passToGuarantor_X4_at : GoodIn wsX0_passToGuarantor wsX4_at := goodIn_r _ [11] (by decide +kernel) (by decide +kernel)
set_option maxRecDepth 20000 in
theorem gX0_passToGuarantor_X4_at_n77 : GoodIn wsX0_passToGuarantor (wsX4_at) := ggX0_passToGuarantor_X4_at
set_option maxRecDepth 20000 in
theorem ggX0_passToGuarantor_X0_guarantorOf : GoodIn wsX0_passToGuarantor wsX0_guarantorOf := goodIn_r _ [16, 17, 22, 23, 24, 25, 26, 27, 28, 29, 30, 31, 32, 33, 34] (by decide +kernel) (by decide +kernel)
set_option maxRecDepth 20000 in
theorem gX0_passToGuarantor_X0_guarantorOf : GoodIn wsX0_passToGuarantor (wsV RX0 81 RX0 yX0_guarantorOf wsX0_guarantorOf) := goodIn_app (goodIn_of _ (by decide +kernel)) ggX0_passToGuarantor_X0_guarantorOf
set_option maxRecDepth 20000 in
theorem ggX0_passToGuarantor_X4_put : GoodIn wsX0_passToGuarantor wsX4_put := goodIn_r _ [19] (by decide +kernel) (by decide +kernel)
set_option maxRecDepth 20000 in
theorem gX0_passToGuarantor_X4_put_n55 : GoodIn wsX0_passToGuarantor (wsX4_put) := ggX0_passToGuarantor_X4_put
set_option maxRecDepth 20000 in
theorem ggX0_passToGuarantor_X4_add : GoodIn wsX0_passToGuarantor wsX4_add := goodIn_r _ [21] (by decide +kernel) (by decide +kernel)
set_option maxRecDepth 20000 in
theorem gX0_passToGuarantor_X4_add_n86 : GoodIn wsX0_passToGuarantor (wsX4_add) := ggX0_passToGuarantor_X4_add
theorem dX0_passToGuarantor_0 : decode cX0_passToGuarantor 0 = .ok (.aload_n 0, 1) := by decide +kernel
theorem dX0_passToGuarantor_1 : decode cX0_passToGuarantor 1 = .ok (.getfield 33, 3) := by decide +kernel
theorem dX0_passToGuarantor_4 : decode cX0_passToGuarantor 4 = .ok (.iload_n 1, 1) := by decide +kernel
theorem dX0_passToGuarantor_5 : decode cX0_passToGuarantor 5 = .ok (.invokestatic 77, 3) := by decide +kernel
theorem dX0_passToGuarantor_8 : decode cX0_passToGuarantor 8 = .ok (.istore_n 2, 1) := by decide +kernel
theorem dX0_passToGuarantor_9 : decode cX0_passToGuarantor 9 = .ok (.aload_n 0, 1) := by decide +kernel
theorem dX0_passToGuarantor_10 : decode cX0_passToGuarantor 10 = .ok (.iload_n 2, 1) := by decide +kernel
theorem dX0_passToGuarantor_11 : decode cX0_passToGuarantor 11 = .ok (.invokevirtual 81, 3) := by decide +kernel
theorem dX0_passToGuarantor_14 : decode cX0_passToGuarantor 14 = .ok (.istore_n 3, 1) := by decide +kernel
theorem dX0_passToGuarantor_15 : decode cX0_passToGuarantor 15 = .ok (.iload_n 3, 1) := by decide +kernel
theorem dX0_passToGuarantor_16 : decode cX0_passToGuarantor 16 = .ok (.ifCond .lt 26, 3) := by decide +kernel
theorem dX0_passToGuarantor_19 : decode cX0_passToGuarantor 19 = .ok (.iload_n 3, 1) := by decide +kernel
theorem dX0_passToGuarantor_20 : decode cX0_passToGuarantor 20 = .ok (.aload_n 0, 1) := by decide +kernel
theorem dX0_passToGuarantor_21 : decode cX0_passToGuarantor 21 = .ok (.getfield 36, 3) := by decide +kernel
theorem dX0_passToGuarantor_24 : decode cX0_passToGuarantor 24 = .ok (.iload_n 1, 1) := by decide +kernel
theorem dX0_passToGuarantor_25 : decode cX0_passToGuarantor 25 = .ok (.invokestatic 77, 3) := by decide +kernel
theorem dX0_passToGuarantor_28 : decode cX0_passToGuarantor 28 = .ok (.if_icmp .eq 14, 3) := by decide +kernel
theorem dX0_passToGuarantor_31 : decode cX0_passToGuarantor 31 = .ok (.aload_n 0, 1) := by decide +kernel
theorem dX0_passToGuarantor_32 : decode cX0_passToGuarantor 32 = .ok (.getfield 48, 3) := by decide +kernel
theorem dX0_passToGuarantor_35 : decode cX0_passToGuarantor 35 = .ok (.iload_n 1, 1) := by decide +kernel
theorem dX0_passToGuarantor_36 : decode cX0_passToGuarantor 36 = .ok (.invokestatic 77, 3) := by decide +kernel
theorem dX0_passToGuarantor_39 : decode cX0_passToGuarantor 39 = .ok (.ifCond .eq 5, 3) := by decide +kernel
theorem dX0_passToGuarantor_42 : decode cX0_passToGuarantor 42 = .ok (.iconst 0, 1) := by decide +kernel
theorem dX0_passToGuarantor_43 : decode cX0_passToGuarantor 43 = .ok (.ireturn, 1) := by decide +kernel
theorem dX0_passToGuarantor_44 : decode cX0_passToGuarantor 44 = .ok (.aload_n 0, 1) := by decide +kernel
theorem dX0_passToGuarantor_45 : decode cX0_passToGuarantor 45 = .ok (.getfield 42, 3) := by decide +kernel
theorem dX0_passToGuarantor_48 : decode cX0_passToGuarantor 48 = .ok (.iload_n 1, 1) := by decide +kernel
theorem dX0_passToGuarantor_49 : decode cX0_passToGuarantor 49 = .ok (.invokestatic 77, 3) := by decide +kernel
theorem dX0_passToGuarantor_52 : decode cX0_passToGuarantor 52 = .ok (.istore 4, 2) := by decide +kernel
theorem dX0_passToGuarantor_54 : decode cX0_passToGuarantor 54 = .ok (.aload_n 0, 1) := by decide +kernel
theorem dX0_passToGuarantor_55 : decode cX0_passToGuarantor 55 = .ok (.getfield 33, 3) := by decide +kernel
theorem dX0_passToGuarantor_58 : decode cX0_passToGuarantor 58 = .ok (.iload_n 1, 1) := by decide +kernel
theorem dX0_passToGuarantor_59 : decode cX0_passToGuarantor 59 = .ok (.iload_n 3, 1) := by decide +kernel
theorem dX0_passToGuarantor_60 : decode cX0_passToGuarantor 60 = .ok (.invokestatic 55, 3) := by decide +kernel
theorem dX0_passToGuarantor_63 : decode cX0_passToGuarantor 63 = .ok (.aload_n 0, 1) := by decide +kernel
theorem dX0_passToGuarantor_64 : decode cX0_passToGuarantor 64 = .ok (.getfield 45, 3) := by decide +kernel
theorem dX0_passToGuarantor_67 : decode cX0_passToGuarantor 67 = .ok (.iload_n 1, 1) := by decide +kernel
theorem dX0_passToGuarantor_68 : decode cX0_passToGuarantor 68 = .ok (.iconst 0, 1) := by decide +kernel
theorem dX0_passToGuarantor_69 : decode cX0_passToGuarantor 69 = .ok (.invokestatic 55, 3) := by decide +kernel
theorem dX0_passToGuarantor_72 : decode cX0_passToGuarantor 72 = .ok (.aload_n 0, 1) := by decide +kernel
theorem dX0_passToGuarantor_73 : decode cX0_passToGuarantor 73 = .ok (.getfield 48, 3) := by decide +kernel
theorem dX0_passToGuarantor_76 : decode cX0_passToGuarantor 76 = .ok (.iload_n 1, 1) := by decide +kernel
theorem dX0_passToGuarantor_77 : decode cX0_passToGuarantor 77 = .ok (.iconst 1, 1) := by decide +kernel
theorem dX0_passToGuarantor_78 : decode cX0_passToGuarantor 78 = .ok (.invokestatic 55, 3) := by decide +kernel
theorem dX0_passToGuarantor_81 : decode cX0_passToGuarantor 81 = .ok (.aload_n 0, 1) := by decide +kernel
theorem dX0_passToGuarantor_82 : decode cX0_passToGuarantor 82 = .ok (.getfield 15, 3) := by decide +kernel
theorem dX0_passToGuarantor_85 : decode cX0_passToGuarantor 85 = .ok (.iload_n 2, 1) := by decide +kernel
theorem dX0_passToGuarantor_86 : decode cX0_passToGuarantor 86 = .ok (.iload 4, 2) := by decide +kernel
theorem dX0_passToGuarantor_88 : decode cX0_passToGuarantor 88 = .ok (.invokestatic 86, 3) := by decide +kernel
theorem dX0_passToGuarantor_91 : decode cX0_passToGuarantor 91 = .ok (.aload_n 0, 1) := by decide +kernel
theorem dX0_passToGuarantor_92 : decode cX0_passToGuarantor 92 = .ok (.getfield 15, 3) := by decide +kernel
theorem dX0_passToGuarantor_95 : decode cX0_passToGuarantor 95 = .ok (.iload_n 3, 1) := by decide +kernel
theorem dX0_passToGuarantor_96 : decode cX0_passToGuarantor 96 = .ok (.iload 4, 2) := by decide +kernel
theorem dX0_passToGuarantor_98 : decode cX0_passToGuarantor 98 = .ok (.ineg, 1) := by decide +kernel
theorem dX0_passToGuarantor_99 : decode cX0_passToGuarantor 99 = .ok (.invokestatic 86, 3) := by decide +kernel
theorem dX0_passToGuarantor_102 : decode cX0_passToGuarantor 102 = .ok (.aload_n 0, 1) := by decide +kernel
theorem dX0_passToGuarantor_103 : decode cX0_passToGuarantor 103 = .ok (.getfield 27, 3) := by decide +kernel
theorem dX0_passToGuarantor_106 : decode cX0_passToGuarantor 106 = .ok (.iload_n 3, 1) := by decide +kernel
theorem dX0_passToGuarantor_107 : decode cX0_passToGuarantor 107 = .ok (.iload 4, 2) := by decide +kernel
theorem dX0_passToGuarantor_109 : decode cX0_passToGuarantor 109 = .ok (.invokestatic 86, 3) := by decide +kernel
theorem dX0_passToGuarantor_112 : decode cX0_passToGuarantor 112 = .ok (.aload_n 0, 1) := by decide +kernel

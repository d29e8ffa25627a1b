theorem dX0_passToGuarantor_113 : decode cX0_passToGuarantor 113 = .ok (.getfield 9, 3) := by decide +kernel
theorem dX0_passToGuarantor_116 : decode cX0_passToGuarantor 116 = .ok (.bipush 8, 2) := by decide +kernel
theorem dX0_passToGuarantor_118 : decode cX0_passToGuarantor 118 = .ok (.iload 4, 2) := by decide +kernel
theorem dX0_passToGuarantor_120 : decode cX0_passToGuarantor 120 = .ok (.invokestatic 86, 3) := by decide +kernel
theorem dX0_passToGuarantor_123 : decode cX0_passToGuarantor 123 = .ok (.iconst 1, 1) := by decide +kernel
theorem dX0_passToGuarantor_124 : decode cX0_passToGuarantor 124 = .ok (.ireturn, 1) := by decide +kernel
set_option maxRecDepth 20000 in
theorem ggX0_spoilLot_X4_at : GoodIn wsX0_spoilLot wsX4_at := goodIn_r _ [9] (by decide +kernel) (by decide +kernel)
set_option maxRecDepth 20000 in
theorem gX0_spoilLot_X4_at_n77 : GoodIn wsX0_spoilLot (wsX4_at) := ggX0_spoilLot_X4_at
set_option maxRecDepth 20000 in
theorem ggX0_spoilLot_X4_put : GoodIn wsX0_spoilLot wsX4_put := goodIn_r _ [11] (by decide +kernel) (by decide +kernel)
set_option maxRecDepth 20000 in
theorem gX0_spoilLot_X4_put_n55 : GoodIn wsX0_spoilLot (wsX4_put) := ggX0_spoilLot_X4_put
set_option maxRecDepth 20000 in
theorem ggX0_spoilLot_X4_add : GoodIn wsX0_spoilLot wsX4_add := goodIn_r _ [13] (by decide +kernel) (by decide +kernel)
set_option maxRecDepth 20000 in
theorem gX0_spoilLot_X4_add_n86 : GoodIn wsX0_spoilLot (wsX4_add) := ggX0_spoilLot_X4_add
theorem dX0_spoilLot_0 : decode cX0_spoilLot 0 = .ok (.aload_n 0, 1) := by decide +kernel
theorem dX0_spoilLot_1 : decode cX0_spoilLot 1 = .ok (.getfield 33, 3) := by decide +kernel
theorem dX0_spoilLot_4 : decode cX0_spoilLot 4 = .ok (.iload_n 1, 1) := by decide +kernel
theorem dX0_spoilLot_5 : decode cX0_spoilLot 5 = .ok (.invokestatic 77, 3) := by decide +kernel
theorem dX0_spoilLot_8 : decode cX0_spoilLot 8 = .ok (.istore_n 2, 1) := by decide +kernel
theorem dX0_spoilLot_9 : decode cX0_spoilLot 9 = .ok (.aload_n 0, 1) := by decide +kernel
theorem dX0_spoilLot_10 : decode cX0_spoilLot 10 = .ok (.getfield 42, 3) := by decide +kernel
theorem dX0_spoilLot_13 : decode cX0_spoilLot 13 = .ok (.iload_n 1, 1) := by decide +kernel
theorem dX0_spoilLot_14 : decode cX0_spoilLot 14 = .ok (.invokestatic 77, 3) := by decide +kernel
theorem dX0_spoilLot_17 : decode cX0_spoilLot 17 = .ok (.istore_n 3, 1) := by decide +kernel
theorem dX0_spoilLot_18 : decode cX0_spoilLot 18 = .ok (.aload_n 0, 1) := by decide +kernel
theorem dX0_spoilLot_19 : decode cX0_spoilLot 19 = .ok (.getfield 42, 3) := by decide +kernel
theorem dX0_spoilLot_22 : decode cX0_spoilLot 22 = .ok (.iload_n 1, 1) := by decide +kernel
theorem dX0_spoilLot_23 : decode cX0_spoilLot 23 = .ok (.iconst 0, 1) := by decide +kernel
theorem dX0_spoilLot_24 : decode cX0_spoilLot 24 = .ok (.invokestatic 55, 3) := by decide +kernel
theorem dX0_spoilLot_27 : decode cX0_spoilLot 27 = .ok (.aload_n 0, 1) := by decide +kernel
theorem dX0_spoilLot_28 : decode cX0_spoilLot 28 = .ok (.getfield 15, 3) := by decide +kernel
theorem dX0_spoilLot_31 : decode cX0_spoilLot 31 = .ok (.iload_n 2, 1) := by decide +kernel
theorem dX0_spoilLot_32 : decode cX0_spoilLot 32 = .ok (.iload_n 3, 1) := by decide +kernel
theorem dX0_spoilLot_33 : decode cX0_spoilLot 33 = .ok (.invokestatic 86, 3) := by decide +kernel
theorem dX0_spoilLot_36 : decode cX0_spoilLot 36 = .ok (.aload_n 0, 1) := by decide +kernel
theorem dX0_spoilLot_37 : decode cX0_spoilLot 37 = .ok (.getfield 15, 3) := by decide +kernel
theorem dX0_spoilLot_40 : decode cX0_spoilLot 40 = .ok (.aload_n 0, 1) := by decide +kernel
theorem dX0_spoilLot_41 : decode cX0_spoilLot 41 = .ok (.getfield 36, 3) := by decide +kernel
theorem dX0_spoilLot_44 : decode cX0_spoilLot 44 = .ok (.iload_n 1, 1) := by decide +kernel
theorem dX0_spoilLot_45 : decode cX0_spoilLot 45 = .ok (.invokestatic 77, 3) := by decide +kernel
theorem dX0_spoilLot_48 : decode cX0_spoilLot 48 = .ok (.iload_n 3, 1) := by decide +kernel
theorem dX0_spoilLot_49 : decode cX0_spoilLot 49 = .ok (.ineg, 1) := by decide +kernel
theorem dX0_spoilLot_50 : decode cX0_spoilLot 50 = .ok (.invokestatic 86, 3) := by decide +kernel
theorem dX0_spoilLot_53 : decode cX0_spoilLot 53 = .ok (.aload_n 0, 1) := by decide +kernel
theorem dX0_spoilLot_54 : decode cX0_spoilLot 54 = .ok (.getfield 21, 3) := by decide +kernel
theorem dX0_spoilLot_57 : decode cX0_spoilLot 57 = .ok (.iload_n 2, 1) := by decide +kernel
theorem dX0_spoilLot_58 : decode cX0_spoilLot 58 = .ok (.iload_n 3, 1) := by decide +kernel
theorem dX0_spoilLot_59 : decode cX0_spoilLot 59 = .ok (.invokestatic 86, 3) := by decide +kernel
theorem dX0_spoilLot_62 : decode cX0_spoilLot 62 = .ok (.aload_n 0, 1) := by decide +kernel
theorem dX0_spoilLot_63 : decode cX0_spoilLot 63 = .ok (.getfield 9, 3) := by decide +kernel
theorem dX0_spoilLot_66 : decode cX0_spoilLot 66 = .ok (.bipush 6, 2) := by decide +kernel
theorem dX0_spoilLot_68 : decode cX0_spoilLot 68 = .ok (.iload_n 3, 1) := by decide +kernel
theorem dX0_spoilLot_69 : decode cX0_spoilLot 69 = .ok (.invokestatic 86, 3) := by decide +kernel
theorem dX0_spoilLot_72 : decode cX0_spoilLot 72 = .ok (.return_, 1) := by decide +kernel
set_option maxRecDepth 20000 in
theorem ggX0_turnHolidays_X0_number : GoodIn wsX0_turnHolidays wsX0_number := goodIn_r _ [6, 1, 10, 11, 12, 13, 14, 15, 16, 17, 18, 19, 20, 21, 22] (by decide +kernel) (by decide +kernel)
set_option maxRecDepth 20000 in
theorem gX0_turnHolidays_X0_number : GoodIn wsX0_turnHolidays (wsV RX0 63 RX0 yX0_number wsX0_number) := goodIn_app (goodIn_of _ (by decide +kernel)) ggX0_turnHolidays_X0_number
set_option maxRecDepth 20000 in
theorem ggX0_turnHolidays_X4_put : GoodIn wsX0_turnHolidays wsX4_put := goodIn_r _ [9] (by decide +kernel) (by decide +kernel)
set_option maxRecDepth 20000 in
theorem gX0_turnHolidays_X4_put_n55 : GoodIn wsX0_turnHolidays (wsX4_put) := ggX0_turnHolidays_X4_put
theorem dX0_turnHolidays_0 : decode cX0_turnHolidays 0 = .ok (.aload_n 0, 1) := by decide +kernel
theorem dX0_turnHolidays_1 : decode cX0_turnHolidays 1 = .ok (.bipush 10, 2) := by decide +kernel
theorem dX0_turnHolidays_3 : decode cX0_turnHolidays 3 = .ok (.invokevirtual 63, 3) := by decide +kernel
theorem dX0_turnHolidays_6 : decode cX0_turnHolidays 6 = .ok (.istore_n 2, 1) := by decide +kernel
theorem dX0_turnHolidays_7 : decode cX0_turnHolidays 7 = .ok (.aload_n 0, 1) := by decide +kernel
theorem dX0_turnHolidays_8 : decode cX0_turnHolidays 8 = .ok (.getfield 9, 3) := by decide +kernel
theorem dX0_turnHolidays_11 : decode cX0_turnHolidays 11 = .ok (.bipush 10, 2) := by decide +kernel
theorem dX0_turnHolidays_13 : decode cX0_turnHolidays 13 = .ok (.iload_n 1, 1) := by decide +kernel
theorem dX0_turnHolidays_14 : decode cX0_turnHolidays 14 = .ok (.ifCond .eq 7, 3) := by decide +kernel
theorem dX0_turnHolidays_17 : decode cX0_turnHolidays 17 = .ok (.iconst 1, 1) := by decide +kernel
theorem dX0_turnHolidays_18 : decode cX0_turnHolidays 18 = .ok (.goto 4, 3) := by decide +kernel
theorem dX0_turnHolidays_21 : decode cX0_turnHolidays 21 = .ok (.iconst 0, 1) := by decide +kernel
theorem dX0_turnHolidays_22 : decode cX0_turnHolidays 22 = .ok (.invokestatic 55, 3) := by decide +kernel
theorem dX0_turnHolidays_25 : decode cX0_turnHolidays 25 = .ok (.iload_n 2, 1) := by decide +kernel
theorem dX0_turnHolidays_26 : decode cX0_turnHolidays 26 = .ok (.ireturn, 1) := by decide +kernel
set_option maxRecDepth 20000 in
theorem ggX0_changeSetting_X4_mostOfSetting : GoodIn wsX0_changeSetting wsX4_mostOfSetting := goodIn_r _ [5] (by decide +kernel) (by decide +kernel)
set_option maxRecDepth 20000 in
theorem gX0_changeSetting_X4_mostOfSetting_n147 : GoodIn wsX0_changeSetting (wsX4_mostOfSetting) := ggX0_changeSetting_X4_mostOfSetting
set_option maxRecDepth 20000 in
theorem ggX0_changeSetting_X0_number : GoodIn wsX0_changeSetting wsX0_number := goodIn_r _ [10, 2, 13, 14, 15, 16, 17, 18, 19, 20, 21, 22, 23, 24, 25] (by decide +kernel) (by decide +kernel)
set_option maxRecDepth 20000 in
theorem gX0_changeSetting_X0_number : GoodIn wsX0_changeSetting (wsV RX0 63 RX0 yX0_number wsX0_number) := goodIn_app (goodIn_of _ (by decide +kernel)) ggX0_changeSetting_X0_number
set_option maxRecDepth 20000 in
theorem ggX0_changeSetting_X4_put : GoodIn wsX0_changeSetting wsX4_put := goodIn_r _ [12] (by decide +kernel) (by decide +kernel)
set_option maxRecDepth 20000 in
theorem gX0_changeSetting_X4_put_n55 : GoodIn wsX0_changeSetting (wsX4_put) := ggX0_changeSetting_X4_put
theorem dX0_changeSetting_0 : decode cX0_changeSetting 0 = .ok (.iload_n 1, 1) := by decide +kernel
theorem dX0_changeSetting_1 : decode cX0_changeSetting 1 = .ok (.ifCond .lt 22, 3) := by decide +kernel
theorem dX0_changeSetting_4 : decode cX0_changeSetting 4 = .ok (.iload_n 1, 1) := by decide +kernel
theorem dX0_changeSetting_5 : decode cX0_changeSetting 5 = .ok (.bipush 6, 2) := by decide +kernel
theorem dX0_changeSetting_7 : decode cX0_changeSetting 7 = .ok (.if_icmp .ge 16, 3) := by decide +kernel
theorem dX0_changeSetting_10 : decode cX0_changeSetting 10 = .ok (.iload_n 2, 1) := by decide +kernel
theorem dX0_changeSetting_11 : decode cX0_changeSetting 11 = .ok (.iconst 1, 1) := by decide +kernel
theorem dX0_changeSetting_12 : decode cX0_changeSetting 12 = .ok (.if_icmp .lt 11, 3) := by decide +kernel
theorem dX0_changeSetting_15 : decode cX0_changeSetting 15 = .ok (.iload_n 2, 1) := by decide +kernel
theorem dX0_changeSetting_16 : decode cX0_changeSetting 16 = .ok (.iload_n 1, 1) := by decide +kernel
theorem dX0_changeSetting_17 : decode cX0_changeSetting 17 = .ok (.invokestatic 147, 3) := by decide +kernel
theorem dX0_changeSetting_20 : decode cX0_changeSetting 20 = .ok (.if_icmp .le 6, 3) := by decide +kernel
theorem dX0_changeSetting_23 : decode cX0_changeSetting 23 = .ok (.ldc 93, 2) := by decide +kernel
theorem dX0_changeSetting_25 : decode cX0_changeSetting 25 = .ok (.ireturn, 1) := by decide +kernel
theorem dX0_changeSetting_26 : decode cX0_changeSetting 26 = .ok (.aload_n 0, 1) := by decide +kernel
theorem dX0_changeSetting_27 : decode cX0_changeSetting 27 = .ok (.bipush 20, 2) := by decide +kernel
theorem dX0_changeSetting_29 : decode cX0_changeSetting 29 = .ok (.iload_n 1, 1) := by decide +kernel
theorem dX0_changeSetting_30 : decode cX0_changeSetting 30 = .ok (.iadd, 1) := by decide +kernel
theorem dX0_changeSetting_31 : decode cX0_changeSetting 31 = .ok (.invokevirtual 63, 3) := by decide +kernel
theorem dX0_changeSetting_34 : decode cX0_changeSetting 34 = .ok (.istore_n 3, 1) := by decide +kernel
theorem dX0_changeSetting_35 : decode cX0_changeSetting 35 = .ok (.aload_n 0, 1) := by decide +kernel
theorem dX0_changeSetting_36 : decode cX0_changeSetting 36 = .ok (.getfield 9, 3) := by decide +kernel
theorem dX0_changeSetting_39 : decode cX0_changeSetting 39 = .ok (.bipush 20, 2) := by decide +kernel
theorem dX0_changeSetting_41 : decode cX0_changeSetting 41 = .ok (.iload_n 1, 1) := by decide +kernel
theorem dX0_changeSetting_42 : decode cX0_changeSetting 42 = .ok (.iadd, 1) := by decide +kernel
theorem dX0_changeSetting_43 : decode cX0_changeSetting 43 = .ok (.iload_n 2, 1) := by decide +kernel
theorem dX0_changeSetting_44 : decode cX0_changeSetting 44 = .ok (.invokestatic 55, 3) := by decide +kernel
theorem dX0_changeSetting_47 : decode cX0_changeSetting 47 = .ok (.iload_n 3, 1) := by decide +kernel
theorem dX0_changeSetting_48 : decode cX0_changeSetting 48 = .ok (.ireturn, 1) := by decide +kernel
set_option maxRecDepth 20000 in
theorem ggX1_init_X0_init : GoodIn wsX1_init wsX0_init := goodIn_r _ [10, 11, 2, 3, 12, 13, 14, 15, 16, 17, 18, 19, 20, 21, 22, 23, 24, 25, 26, 27, 28, 29, 30, 33, 34, 35, 36, 37, 38, 39, 40, 41, 42, 43, 44, 45] (by decide +kernel) (by decide +kernel)
set_option maxRecDepth 20000 in
theorem gX1_init_X0_init : GoodIn wsX1_init (wsX0_init) := ggX1_init_X0_init
theorem dX1_init_0 : decode cX1_init 0 = .ok (.aload_n 0, 1) := by decide +kernel
theorem dX1_init_1 : decode cX1_init 1 = .ok (.invokespecial 3, 3) := by decide +kernel
theorem dX1_init_4 : decode cX1_init 4 = .ok (.aload_n 0, 1) := by decide +kernel
theorem dX1_init_5 : decode cX1_init 5 = .ok (.iconst 4, 1) := by decide +kernel
theorem dX1_init_6 : decode cX1_init 6 = .ok (.anewarray 9, 3) := by decide +kernel
theorem dX1_init_9 : decode cX1_init 9 = .ok (.putfield 11, 3) := by decide +kernel
theorem dX1_init_12 : decode cX1_init 12 = .ok (.iconst 0, 1) := by decide +kernel
theorem dX1_init_13 : decode cX1_init 13 = .ok (.istore_n 1, 1) := by decide +kernel
theorem dX1_init_14 : decode cX1_init 14 = .ok (.iload_n 1, 1) := by decide +kernel
theorem dX1_init_15 : decode cX1_init 15 = .ok (.aload_n 0, 1) := by decide +kernel
theorem dX1_init_16 : decode cX1_init 16 = .ok (.getfield 11, 3) := by decide +kernel
theorem dX1_init_19 : decode cX1_init 19 = .ok (.arraylength, 1) := by decide +kernel
theorem dX1_init_20 : decode cX1_init 20 = .ok (.if_icmp .ge 22, 3) := by decide +kernel
theorem dX1_init_23 : decode cX1_init 23 = .ok (.aload_n 0, 1) := by decide +kernel
theorem dX1_init_24 : decode cX1_init 24 = .ok (.getfield 11, 3) := by decide +kernel
theorem dX1_init_27 : decode cX1_init 27 = .ok (.iload_n 1, 1) := by decide +kernel
theorem dX1_init_28 : decode cX1_init 28 = .ok (.new 9, 3) := by decide +kernel
theorem dX1_init_31 : decode cX1_init 31 = .ok (.dup, 1) := by decide +kernel
theorem dX1_init_32 : decode cX1_init 32 = .ok (.invokespecial 17, 3) := by decide +kernel
theorem dX1_init_35 : decode cX1_init 35 = .ok (.aastore, 1) := by decide +kernel
theorem dX1_init_36 : decode cX1_init 36 = .ok (.iinc 1 1, 3) := by decide +kernel
theorem dX1_init_39 : decode cX1_init 39 = .ok (.goto (-25), 3) := by decide +kernel
theorem dX1_init_42 : decode cX1_init 42 = .ok (.return_, 1) := by decide +kernel
theorem dX1_size_0 : decode cX1_size 0 = .ok (.aload_n 0, 1) := by decide +kernel
theorem dX1_size_1 : decode cX1_size 1 = .ok (.getfield 18, 3) := by decide +kernel
theorem dX1_size_4 : decode cX1_size 4 = .ok (.ireturn, 1) := by decide +kernel
set_option maxRecDepth 20000 in
theorem ggX1_keep_X1_dropOldest : GoodIn wsX1_keep wsX1_dropOldest := goodIn_r _ [7, 2, 1, 8, 9, 10, 11, 12, 13, 14, 15, 16, 17, 18, 19, 20, 21, 22, 23, 24, 25, 26, 27, 28, 29, 30, 31, 32, 33, 34, 35, 36, 37, 38, 39, 40, 41, 42, 43, 44, 45, 46, 47, 48, 49, 50, 51] (by decide +kernel) (by decide +kernel)
set_option maxRecDepth 20000 in
theorem gX1_keep_X1_dropOldest : GoodIn wsX1_keep (wsV RX1 22 RX1 yX1_dropOldest wsX1_dropOldest) := goodIn_app (goodIn_of _ (by decide +kernel)) ggX1_keep_X1_dropOldest
set_option maxRecDepth 20000 in
theorem ggX1_keep_X0_copyFrom : GoodIn wsX1_keep wsX0_copyFrom := goodIn_r _ [12, 13, 14, 15, 16, 17, 18, 19, 20, 21, 22, 23, 24, 25, 26, 27, 28, 29, 30, 31, 32, 33, 34, 35, 36, 39, 40, 41, 42, 43, 44, 45, 46, 47, 48, 49, 50, 51] (by decide +kernel) (by decide +kernel)
set_option maxRecDepth 20000 in
theorem gX1_keep_X0_copyFrom : GoodIn wsX1_keep (wsV RX1 25 RX0 yX0_copyFrom wsX0_copyFrom) := goodIn_app (goodIn_of _ (by decide +kernel)) ggX1_keep_X0_copyFrom
theorem dX1_keep_0 : decode cX1_keep 0 = .ok (.aload_n 0, 1) := by decide +kernel
theorem dX1_keep_1 : decode cX1_keep 1 = .ok (.getfield 18, 3) := by decide +kernel
theorem dX1_keep_4 : decode cX1_keep 4 = .ok (.iconst 4, 1) := by decide +kernel
theorem dX1_keep_5 : decode cX1_keep 5 = .ok (.if_icmp .lt 7, 3) := by decide +kernel
theorem dX1_keep_8 : decode cX1_keep 8 = .ok (.aload_n 0, 1) := by decide +kernel
theorem dX1_keep_9 : decode cX1_keep 9 = .ok (.invokevirtual 22, 3) := by decide +kernel
theorem dX1_keep_12 : decode cX1_keep 12 = .ok (.aload_n 0, 1) := by decide +kernel
theorem dX1_keep_13 : decode cX1_keep 13 = .ok (.getfield 18, 3) := by decide +kernel
theorem dX1_keep_16 : decode cX1_keep 16 = .ok (.ifCond .lt 50, 3) := by decide +kernel
theorem dX1_keep_19 : decode cX1_keep 19 = .ok (.aload_n 0, 1) := by decide +kernel
theorem dX1_keep_20 : decode cX1_keep 20 = .ok (.getfield 18, 3) := by decide +kernel
theorem dX1_keep_23 : decode cX1_keep 23 = .ok (.aload_n 0, 1) := by decide +kernel
theorem dX1_keep_24 : decode cX1_keep 24 = .ok (.getfield 11, 3) := by decide +kernel
theorem dX1_keep_27 : decode cX1_keep 27 = .ok (.arraylength, 1) := by decide +kernel
theorem dX1_keep_28 : decode cX1_keep 28 = .ok (.if_icmp .ge 38, 3) := by decide +kernel
theorem dX1_keep_31 : decode cX1_keep 31 = .ok (.aload_n 0, 1) := by decide +kernel
theorem dX1_keep_32 : decode cX1_keep 32 = .ok (.getfield 11, 3) := by decide +kernel
theorem dX1_keep_35 : decode cX1_keep 35 = .ok (.aload_n 0, 1) := by decide +kernel
theorem dX1_keep_36 : decode cX1_keep 36 = .ok (.getfield 18, 3) := by decide +kernel
theorem dX1_keep_39 : decode cX1_keep 39 = .ok (.aaload, 1) := by decide +kernel
theorem dX1_keep_40 : decode cX1_keep 40 = .ok (.ifnull 26, 3) := by decide +kernel
theorem dX1_keep_43 : decode cX1_keep 43 = .ok (.aload_n 0, 1) := by decide +kernel
theorem dX1_keep_44 : decode cX1_keep 44 = .ok (.getfield 11, 3) := by decide +kernel
theorem dX1_keep_47 : decode cX1_keep 47 = .ok (.aload_n 0, 1) := by decide +kernel
theorem dX1_keep_48 : decode cX1_keep 48 = .ok (.getfield 18, 3) := by decide +kernel
theorem dX1_keep_51 : decode cX1_keep 51 = .ok (.aaload, 1) := by decide +kernel
theorem dX1_keep_52 : decode cX1_keep 52 = .ok (.aload_n 1, 1) := by decide +kernel
theorem dX1_keep_53 : decode cX1_keep 53 = .ok (.invokevirtual 25, 3) := by decide +kernel
theorem dX1_keep_56 : decode cX1_keep 56 = .ok (.aload_n 0, 1) := by decide +kernel
theorem dX1_keep_57 : decode cX1_keep 57 = .ok (.dup, 1) := by decide +kernel
theorem dX1_keep_58 : decode cX1_keep 58 = .ok (.getfield 18, 3) := by decide +kernel
theorem dX1_keep_61 : decode cX1_keep 61 = .ok (.iconst 1, 1) := by decide +kernel
theorem dX1_keep_62 : decode cX1_keep 62 = .ok (.iadd, 1) := by decide +kernel
theorem dX1_keep_63 : decode cX1_keep 63 = .ok (.putfield 18, 3) := by decide +kernel
theorem dX1_keep_66 : decode cX1_keep 66 = .ok (.return_, 1) := by decide +kernel
set_option maxRecDepth 20000 in
theorem ggX1_dropOldest_X0_copyFrom : GoodIn wsX1_dropOldest wsX0_copyFrom := goodIn_r _ [7, 8, 9, 10, 11, 12, 13, 14, 15, 16, 17, 18, 19, 20, 21, 22, 23, 24, 25, 26, 27, 28, 29, 30, 31, 34, 35, 36, 37, 38, 39, 40, 41, 42, 43, 44, 45, 46] (by decide +kernel) (by decide +kernel)
set_option maxRecDepth 20000 in
theorem gX1_dropOldest_X0_copyFrom : GoodIn wsX1_dropOldest (wsV RX1 25 RX0 yX0_copyFrom wsX0_copyFrom) := goodIn_app (goodIn_of _ (by decide +kernel)) ggX1_dropOldest_X0_copyFrom
theorem dX1_dropOldest_0 : decode cX1_dropOldest 0 = .ok (.iconst 1, 1) := by decide +kernel
theorem dX1_dropOldest_1 : decode cX1_dropOldest 1 = .ok (.istore_n 1, 1) := by decide +kernel
theorem dX1_dropOldest_2 : decode cX1_dropOldest 2 = .ok (.iload_n 1, 1) := by decide +kernel
theorem dX1_dropOldest_3 : decode cX1_dropOldest 3 = .ok (.aload_n 0, 1) := by decide +kernel
theorem dX1_dropOldest_4 : decode cX1_dropOldest 4 = .ok (.getfield 11, 3) := by decide +kernel
theorem dX1_dropOldest_7 : decode cX1_dropOldest 7 = .ok (.arraylength, 1) := by decide +kernel
theorem dX1_dropOldest_8 : decode cX1_dropOldest 8 = .ok (.if_icmp .ge 46, 3) := by decide +kernel
theorem dX1_dropOldest_11 : decode cX1_dropOldest 11 = .ok (.aload_n 0, 1) := by decide +kernel
theorem dX1_dropOldest_12 : decode cX1_dropOldest 12 = .ok (.getfield 11, 3) := by decide +kernel
theorem dX1_dropOldest_15 : decode cX1_dropOldest 15 = .ok (.iload_n 1, 1) := by decide +kernel
theorem dX1_dropOldest_16 : decode cX1_dropOldest 16 = .ok (.iconst 1, 1) := by decide +kernel
theorem dX1_dropOldest_17 : decode cX1_dropOldest 17 = .ok (.isub, 1) := by decide +kernel
theorem dX1_dropOldest_18 : decode cX1_dropOldest 18 = .ok (.aaload, 1) := by decide +kernel
theorem dX1_dropOldest_19 : decode cX1_dropOldest 19 = .ok (.ifnull 29, 3) := by decide +kernel
theorem dX1_dropOldest_22 : decode cX1_dropOldest 22 = .ok (.aload_n 0, 1) := by decide +kernel
theorem dX1_dropOldest_23 : decode cX1_dropOldest 23 = .ok (.getfield 11, 3) := by decide +kernel
theorem dX1_dropOldest_26 : decode cX1_dropOldest 26 = .ok (.iload_n 1, 1) := by decide +kernel
theorem dX1_dropOldest_27 : decode cX1_dropOldest 27 = .ok (.aaload, 1) := by decide +kernel
theorem dX1_dropOldest_28 : decode cX1_dropOldest 28 = .ok (.ifnull 20, 3) := by decide +kernel
theorem dX1_dropOldest_31 : decode cX1_dropOldest 31 = .ok (.aload_n 0, 1) := by decide +kernel
theorem dX1_dropOldest_32 : decode cX1_dropOldest 32 = .ok (.getfield 11, 3) := by decide +kernel
theorem dX1_dropOldest_35 : decode cX1_dropOldest 35 = .ok (.iload_n 1, 1) := by decide +kernel
theorem dX1_dropOldest_36 : decode cX1_dropOldest 36 = .ok (.iconst 1, 1) := by decide +kernel
theorem dX1_dropOldest_37 : decode cX1_dropOldest 37 = .ok (.isub, 1) := by decide +kernel
theorem dX1_dropOldest_38 : decode cX1_dropOldest 38 = .ok (.aaload, 1) := by decide +kernel
theorem dX1_dropOldest_39 : decode cX1_dropOldest 39 = .ok (.aload_n 0, 1) := by decide +kernel
theorem dX1_dropOldest_40 : decode cX1_dropOldest 40 = .ok (.getfield 11, 3) := by decide +kernel
theorem dX1_dropOldest_43 : decode cX1_dropOldest 43 = .ok (.iload_n 1, 1) := by decide +kernel
theorem dX1_dropOldest_44 : decode cX1_dropOldest 44 = .ok (.aaload, 1) := by decide +kernel
theorem dX1_dropOldest_45 : decode cX1_dropOldest 45 = .ok (.invokevirtual 25, 3) := by decide +kernel
theorem dX1_dropOldest_48 : decode cX1_dropOldest 48 = .ok (.iinc 1 1, 3) := by decide +kernel
theorem dX1_dropOldest_51 : decode cX1_dropOldest 51 = .ok (.goto (-49), 3) := by decide +kernel
theorem dX1_dropOldest_54 : decode cX1_dropOldest 54 = .ok (.aload_n 0, 1) := by decide +kernel
theorem dX1_dropOldest_55 : decode cX1_dropOldest 55 = .ok (.dup, 1) := by decide +kernel
theorem dX1_dropOldest_56 : decode cX1_dropOldest 56 = .ok (.getfield 18, 3) := by decide +kernel
theorem dX1_dropOldest_59 : decode cX1_dropOldest 59 = .ok (.iconst 1, 1) := by decide +kernel
theorem dX1_dropOldest_60 : decode cX1_dropOldest 60 = .ok (.isub, 1) := by decide +kernel
theorem dX1_dropOldest_61 : decode cX1_dropOldest 61 = .ok (.putfield 18, 3) := by decide +kernel
theorem dX1_dropOldest_64 : decode cX1_dropOldest 64 = .ok (.return_, 1) := by decide +kernel
theorem dX2_init_0 : decode cX2_init 0 = .ok (.aload_n 0, 1) := by decide +kernel
theorem dX2_init_1 : decode cX2_init 1 = .ok (.invokespecial 3, 3) := by decide +kernel
theorem dX2_init_4 : decode cX2_init 4 = .ok (.aload_n 0, 1) := by decide +kernel
theorem dX2_init_5 : decode cX2_init 5 = .ok (.bipush 60, 2) := by decide +kernel
theorem dX2_init_7 : decode cX2_init 7 = .ok (.newarray .int, 2) := by decide +kernel
theorem dX2_init_9 : decode cX2_init 9 = .ok (.putfield 9, 3) := by decide +kernel
theorem dX2_init_12 : decode cX2_init 12 = .ok (.aload_n 0, 1) := by decide +kernel
theorem dX2_init_13 : decode cX2_init 13 = .ok (.iconst 4, 1) := by decide +kernel
theorem dX2_init_14 : decode cX2_init 14 = .ok (.newarray .int, 2) := by decide +kernel
theorem dX2_init_16 : decode cX2_init 16 = .ok (.putfield 15, 3) := by decide +kernel
theorem dX2_init_19 : decode cX2_init 19 = .ok (.return_, 1) := by decide +kernel
theorem dX2_length_0 : decode cX2_length 0 = .ok (.aload_n 0, 1) := by decide +kernel
theorem dX2_length_1 : decode cX2_length 1 = .ok (.getfield 18, 3) := by decide +kernel
theorem dX2_length_4 : decode cX2_length 4 = .ok (.ireturn, 1) := by decide +kernel
theorem dX3_init_0 : decode cX3_init 0 = .ok (.aload_n 0, 1) := by decide +kernel
theorem dX3_init_1 : decode cX3_init 1 = .ok (.invokespecial 3, 3) := by decide +kernel
theorem dX3_init_4 : decode cX3_init 4 = .ok (.aload_n 0, 1) := by decide +kernel
theorem dX3_init_5 : decode cX3_init 5 = .ok (.bipush 64, 2) := by decide +kernel
theorem dX3_init_7 : decode cX3_init 7 = .ok (.newarray .int, 2) := by decide +kernel
theorem dX3_init_9 : decode cX3_init 9 = .ok (.putfield 9, 3) := by decide +kernel
theorem dX3_init_12 : decode cX3_init 12 = .ok (.aload_n 0, 1) := by decide +kernel
theorem dX3_init_13 : decode cX3_init 13 = .ok (.bipush 8, 2) := by decide +kernel
theorem dX3_init_15 : decode cX3_init 15 = .ok (.newarray .int, 2) := by decide +kernel
theorem dX3_init_17 : decode cX3_init 17 = .ok (.putfield 15, 3) := by decide +kernel
theorem dX3_init_20 : decode cX3_init 20 = .ok (.aload_n 0, 1) := by decide +kernel
theorem dX3_init_21 : decode cX3_init 21 = .ok (.bipush 8, 2) := by decide +kernel
theorem dX3_init_23 : decode cX3_init 23 = .ok (.newarray .int, 2) := by decide +kernel
theorem dX3_init_25 : decode cX3_init 25 = .ok (.putfield 18, 3) := by decide +kernel
theorem dX3_init_28 : decode cX3_init 28 = .ok (.aload_n 0, 1) := by decide +kernel
theorem dX3_init_29 : decode cX3_init 29 = .ok (.bipush 8, 2) := by decide +kernel
theorem dX3_init_31 : decode cX3_init 31 = .ok (.newarray .int, 2) := by decide +kernel
theorem dX3_init_33 : decode cX3_init 33 = .ok (.putfield 21, 3) := by decide +kernel
theorem dX3_init_36 : decode cX3_init 36 = .ok (.return_, 1) := by decide +kernel
theorem dX3_nextLength_0 : decode cX3_nextLength 0 = .ok (.aload_n 0, 1) := by decide +kernel
theorem dX3_nextLength_1 : decode cX3_nextLength 1 = .ok (.getfield 24, 3) := by decide +kernel
theorem dX3_nextLength_4 : decode cX3_nextLength 4 = .ok (.ireturn, 1) := by decide +kernel
set_option maxRecDepth 20000 in
theorem ggX3_nextPupil_X4_at : GoodIn wsX3_nextPupil wsX4_at := goodIn_r _ [4] (by decide +kernel) (by decide +kernel)
set_option maxRecDepth 20000 in
theorem gX3_nextPupil_X4_at_n28 : GoodIn wsX3_nextPupil (wsX4_at) := ggX3_nextPupil_X4_at
theorem dX3_nextPupil_0 : decode cX3_nextPupil 0 = .ok (.aload_n 0, 1) := by decide +kernel
theorem dX3_nextPupil_1 : decode cX3_nextPupil 1 = .ok (.getfield 21, 3) := by decide +kernel
theorem dX3_nextPupil_4 : decode cX3_nextPupil 4 = .ok (.iload_n 1, 1) := by decide +kernel
theorem dX3_nextPupil_5 : decode cX3_nextPupil 5 = .ok (.invokestatic 28, 3) := by decide +kernel
theorem dX3_nextPupil_8 : decode cX3_nextPupil 8 = .ok (.ireturn, 1) := by decide +kernel
set_option maxRecDepth 20000 in
theorem ggX3_nextAmount_X3_nextPupil : GoodIn wsX3_nextAmount wsX3_nextPupil := goodIn_r _ [10, 11, 12, 13, 14, 24, 25, 26, 27, 28] (by decide +kernel) (by decide +kernel)
set_option maxRecDepth 20000 in
theorem gX3_nextAmount_X3_nextPupil : GoodIn wsX3_nextAmount (wsV RX3 32 RX3 yX3_nextPupil wsX3_nextPupil) := goodIn_app (goodIn_of _ (by decide +kernel)) ggX3_nextAmount_X3_nextPupil
set_option maxRecDepth 20000 in
theorem ggX3_nextAmount_X3_pupilBehind : GoodIn wsX3_nextAmount wsX3_pupilBehind := goodIn_r _ [18, 11, 1, 12, 13, 14, 24, 25, 26, 27, 28] (by decide +kernel) (by decide +kernel)
set_option maxRecDepth 20000 in
theorem gX3_nextAmount_X3_pupilBehind : GoodIn wsX3_nextAmount (wsV RX3 36 RX3 yX3_pupilBehind wsX3_pupilBehind) := goodIn_app (goodIn_of _ (by decide +kernel)) ggX3_nextAmount_X3_pupilBehind
set_option maxRecDepth 20000 in
theorem ggX3_nextAmount_X3_owedBetween : GoodIn wsX3_nextAmount wsX3_owedBetween := goodIn_r _ [22, 23, 24, 25, 26, 27, 28] (by decide +kernel) (by decide +kernel)
set_option maxRecDepth 20000 in
theorem gX3_nextAmount_X3_owedBetween : GoodIn wsX3_nextAmount (wsV RX3 39 RX3 yX3_owedBetween wsX3_owedBetween) := goodIn_app (goodIn_of _ (by decide +kernel)) ggX3_nextAmount_X3_owedBetween
theorem dX3_nextAmount_0 : decode cX3_nextAmount 0 = .ok (.iconst 0, 1) := by decide +kernel
theorem dX3_nextAmount_1 : decode cX3_nextAmount 1 = .ok (.istore_n 1, 1) := by decide +kernel
theorem dX3_nextAmount_2 : decode cX3_nextAmount 2 = .ok (.iconst 0, 1) := by decide +kernel
theorem dX3_nextAmount_3 : decode cX3_nextAmount 3 = .ok (.istore_n 2, 1) := by decide +kernel
theorem dX3_nextAmount_4 : decode cX3_nextAmount 4 = .ok (.iload_n 2, 1) := by decide +kernel
theorem dX3_nextAmount_5 : decode cX3_nextAmount 5 = .ok (.aload_n 0, 1) := by decide +kernel
theorem dX3_nextAmount_6 : decode cX3_nextAmount 6 = .ok (.getfield 24, 3) := by decide +kernel
theorem dX3_nextAmount_9 : decode cX3_nextAmount 9 = .ok (.if_icmp .ge 38, 3) := by decide +kernel
theorem dX3_nextAmount_12 : decode cX3_nextAmount 12 = .ok (.aload_n 0, 1) := by decide +kernel
theorem dX3_nextAmount_13 : decode cX3_nextAmount 13 = .ok (.aload_n 0, 1) := by decide +kernel
theorem dX3_nextAmount_14 : decode cX3_nextAmount 14 = .ok (.iload_n 2, 1) := by decide +kernel
theorem dX3_nextAmount_15 : decode cX3_nextAmount 15 = .ok (.invokevirtual 32, 3) := by decide +kernel
theorem dX3_nextAmount_18 : decode cX3_nextAmount 18 = .ok (.aload_n 0, 1) := by decide +kernel
theorem dX3_nextAmount_19 : decode cX3_nextAmount 19 = .ok (.iload_n 2, 1) := by decide +kernel
theorem dX3_nextAmount_20 : decode cX3_nextAmount 20 = .ok (.invokevirtual 36, 3) := by decide +kernel
theorem dX3_nextAmount_23 : decode cX3_nextAmount 23 = .ok (.invokevirtual 39, 3) := by decide +kernel
theorem dX3_nextAmount_26 : decode cX3_nextAmount 26 = .ok (.istore_n 3, 1) := by decide +kernel
theorem dX3_nextAmount_27 : decode cX3_nextAmount 27 = .ok (.iload_n 2, 1) := by decide +kernel
theorem dX3_nextAmount_28 : decode cX3_nextAmount 28 = .ok (.ifCond .ne 7, 3) := by decide +kernel
theorem dX3_nextAmount_31 : decode cX3_nextAmount 31 = .ok (.iload_n 3, 1) := by decide +kernel
theorem dX3_nextAmount_32 : decode cX3_nextAmount 32 = .ok (.goto 8, 3) := by decide +kernel
theorem dX3_nextAmount_35 : decode cX3_nextAmount 35 = .ok (.iload_n 1, 1) := by decide +kernel
theorem dX3_nextAmount_36 : decode cX3_nextAmount 36 = .ok (.iload_n 3, 1) := by decide +kernel
theorem dX3_nextAmount_37 : decode cX3_nextAmount 37 = .ok (.invokestatic 43, 3) := by decide +kernel
theorem dX3_nextAmount_40 : decode cX3_nextAmount 40 = .ok (.istore_n 1, 1) := by decide +kernel
theorem dX3_nextAmount_41 : decode cX3_nextAmount 41 = .ok (.iinc 2 1, 3) := by decide +kernel
theorem dX3_nextAmount_44 : decode cX3_nextAmount 44 = .ok (.goto (-40), 3) := by decide +kernel
theorem dX3_nextAmount_47 : decode cX3_nextAmount 47 = .ok (.iload_n 1, 1) := by decide +kernel
theorem dX3_nextAmount_48 : decode cX3_nextAmount 48 = .ok (.ireturn, 1) := by decide +kernel
set_option maxRecDepth 20000 in
theorem ggX3_clearKind_X4_isKind : GoodIn wsX3_clearKind wsX4_isKind := goodIn_r _ [5] (by decide +kernel) (by decide +kernel)
set_option maxRecDepth 20000 in
theorem gX3_clearKind_X4_isKind_n56 : GoodIn wsX3_clearKind (wsX4_isKind) := ggX3_clearKind_X4_isKind
set_option maxRecDepth 20000 in
theorem ggX3_clearKind_X3_findNext : GoodIn wsX3_clearKind wsX3_findNext := goodIn_r _ [10, 2, 11, 12, 13, 14, 9, 15, 16, 17, 18, 19, 20, 21, 22, 23, 24, 25, 26, 27, 28, 29, 30, 4, 31, 32, 33, 34, 35, 36, 37, 38, 39, 40, 41, 42, 43, 44, 45, 46, 47, 48, 49, 50, 51, 52, 53, 54, 55, 56, 57, 97, 98, 99, 100, 101, 102, 103, 104, 105, 106, 107, 108, 109, 110, 111, 112, 113, 114] (by decide +kernel) (by decide +kernel)
set_option maxRecDepth 20000 in
theorem gX3_clearKind_X3_findNext : GoodIn wsX3_clearKind (wsV RX3 61 RX3 yX3_findNext wsX3_findNext) := goodIn_app (goodIn_of _ (by decide +kernel)) ggX3_clearKind_X3_findNext
set_option maxRecDepth 20000 in
theorem ggX3_clearKind_X3_nextAmount : GoodIn wsX3_clearKind wsX3_nextAmount := goodIn_r _ [61, 2, 62, 63, 64, 65, 50, 51, 52, 9, 53, 11, 30, 4, 31, 66, 67, 68, 69, 42, 43, 44, 45, 16, 97, 98, 99, 100, 101] (by decide +kernel) (by decide +kernel)
set_option maxRecDepth 20000 in
theorem gX3_clearKind_X3_nextAmount : GoodIn wsX3_clearKind (wsV RX3 65 RX3 yX3_nextAmount wsX3_nextAmount) := goodIn_app (goodIn_of _ (by decide +kernel)) ggX3_clearKind_X3_nextAmount
set_option maxRecDepth 20000 in
theorem ggX3_clearKind_X3_nextPupil : GoodIn wsX3_clearKind wsX3_nextPupil := goodIn_r _ [53, 11, 30, 4, 31, 97, 98, 99, 100, 101] (by decide +kernel) (by decide +kernel)
set_option maxRecDepth 20000 in
theorem gX3_clearKind_X3_nextPupil : GoodIn wsX3_clearKind (wsV RX3 32 RX3 yX3_nextPupil wsX3_nextPupil) := goodIn_app (goodIn_of _ (by decide +kernel)) ggX3_clearKind_X3_nextPupil
set_option maxRecDepth 20000 in
theorem ggX3_clearKind_X3_pupilBehind : GoodIn wsX3_clearKind wsX3_pupilBehind := goodIn_r _ [69, 11, 2, 30, 4, 31, 97, 98, 99, 100, 101] (by decide +kernel) (by decide +kernel)
set_option maxRecDepth 20000 in
theorem gX3_clearKind_X3_pupilBehind : GoodIn wsX3_clearKind (wsV RX3 36 RX3 yX3_pupilBehind wsX3_pupilBehind) := goodIn_app (goodIn_of _ (by decide +kernel)) ggX3_clearKind_X3_pupilBehind
set_option maxRecDepth 20000 in
theorem ggX3_clearKind_X0_takeFavours : GoodIn wsX3_clearKind wsX0_takeFavours := goodIn_r _ [73, 74, 75, 63, 64, 65, 76, 77, 78, 20, 79, 80, 81, 18, 19, 21, 22, 82, 24, 25, 26, 27, 28, 29, 30, 4, 31, 32, 33, 83, 84, 85, 86, 87, 40, 41, 102, 103, 104, 105, 106, 107, 108, 109, 110, 111, 112, 113, 114] (by decide +kernel) (by decide +kernel)
set_option maxRecDepth 20000 in
theorem gX3_clearKind_X0_takeFavours : GoodIn wsX3_clearKind (wsV RX3 69 RX0 yX0_takeFavours wsX0_takeFavours) := goodIn_app (goodIn_of _ (by decide +kernel)) ggX3_clearKind_X0_takeFavours
set_option maxRecDepth 20000 in
theorem ggX3_clearKind_X0_countCleared : GoodIn wsX3_clearKind wsX0_countCleared := goodIn_r _ [91, 92, 22, 32, 4, 33, 102, 103, 104, 105, 106, 107, 108, 109, 110, 111, 112, 113, 114] (by decide +kernel) (by decide +kernel)
set_option maxRecDepth 20000 in
theorem gX3_clearKind_X0_countCleared : GoodIn wsX3_clearKind (wsV RX3 75 RX0 yX0_countCleared wsX0_countCleared) := goodIn_app (goodIn_of _ (by decide +kernel)) ggX3_clearKind_X0_countCleared
set_option maxRecDepth 20000 in
theorem ggX3_clearKind_X0_countRing : GoodIn wsX3_clearKind wsX0_countRing := goodIn_r _ [96, 22, 32, 4, 33, 102, 103, 104, 105, 106, 107, 108, 109, 110, 111, 112, 113, 114] (by decide +kernel) (by decide +kernel)
set_option maxRecDepth 20000 in
theorem gX3_clearKind_X0_countRing : GoodIn wsX3_clearKind (wsV RX3 78 RX0 yX0_countRing wsX0_countRing) := goodIn_app (goodIn_of _ (by decide +kernel)) ggX3_clearKind_X0_countRing
theorem dX3_clearKind_0 : decode cX3_clearKind 0 = .ok (.iload_n 2, 1) := by decide +kernel
theorem dX3_clearKind_1 : decode cX3_clearKind 1 = .ok (.invokestatic 56, 3) := by decide +kernel
theorem dX3_clearKind_4 : decode cX3_clearKind 4 = .ok (.ifCond .ne 6, 3) := by decide +kernel
theorem dX3_clearKind_7 : decode cX3_clearKind 7 = .ok (.ldc 60, 2) := by decide +kernel
theorem dX3_clearKind_9 : decode cX3_clearKind 9 = .ok (.ireturn, 1) := by decide +kernel
theorem dX3_clearKind_10 : decode cX3_clearKind 10 = .ok (.iconst 0, 1) := by decide +kernel
theorem dX3_clearKind_11 : decode cX3_clearKind 11 = .ok (.istore_n 3, 1) := by decide +kernel
theorem dX3_clearKind_12 : decode cX3_clearKind 12 = .ok (.iconst 0, 1) := by decide +kernel
theorem dX3_clearKind_13 : decode cX3_clearKind 13 = .ok (.istore 4, 2) := by decide +kernel
theorem dX3_clearKind_15 : decode cX3_clearKind 15 = .ok (.iload 4, 2) := by decide +kernel
theorem dX3_clearKind_17 : decode cX3_clearKind 17 = .ok (.sipush 1000, 3) := by decide +kernel
theorem dX3_clearKind_20 : decode cX3_clearKind 20 = .ok (.if_icmp .ge 87, 3) := by decide +kernel
theorem dX3_clearKind_23 : decode cX3_clearKind 23 = .ok (.aload_n 0, 1) := by decide +kernel
theorem dX3_clearKind_24 : decode cX3_clearKind 24 = .ok (.aload_n 1, 1) := by decide +kernel
theorem dX3_clearKind_25 : decode cX3_clearKind 25 = .ok (.iload_n 2, 1) := by decide +kernel
theorem dX3_clearKind_26 : decode cX3_clearKind 26 = .ok (.invokevirtual 61, 3) := by decide +kernel
theorem dX3_clearKind_29 : decode cX3_clearKind 29 = .ok (.ifCond .eq 78, 3) := by decide +kernel
theorem dX3_clearKind_32 : decode cX3_clearKind 32 = .ok (.aload_n 0, 1) := by decide +kernel
theorem dX3_clearKind_33 : decode cX3_clearKind 33 = .ok (.invokevirtual 65, 3) := by decide +kernel
theorem dX3_clearKind_36 : decode cX3_clearKind 36 = .ok (.istore 5, 2) := by decide +kernel
theorem dX3_clearKind_38 : decode cX3_clearKind 38 = .ok (.iconst 0, 1) := by decide +kernel
theorem dX3_clearKind_39 : decode cX3_clearKind 39 = .ok (.istore 6, 2) := by decide +kernel
theorem dX3_clearKind_41 : decode cX3_clearKind 41 = .ok (.iload 6, 2) := by decide +kernel
theorem dX3_clearKind_43 : decode cX3_clearKind 43 = .ok (.aload_n 0, 1) := by decide +kernel
theorem dX3_clearKind_44 : decode cX3_clearKind 44 = .ok (.getfield 24, 3) := by decide +kernel
theorem dX3_clearKind_47 : decode cX3_clearKind 47 = .ok (.if_icmp .ge 40, 3) := by decide +kernel
theorem dX3_clearKind_50 : decode cX3_clearKind 50 = .ok (.aload_n 1, 1) := by decide +kernel
theorem dX3_clearKind_51 : decode cX3_clearKind 51 = .ok (.aload_n 0, 1) := by decide +kernel
theorem dX3_clearKind_52 : decode cX3_clearKind 52 = .ok (.iload 6, 2) := by decide +kernel
theorem dX3_clearKind_54 : decode cX3_clearKind 54 = .ok (.invokevirtual 32, 3) := by decide +kernel
theorem dX3_clearKind_57 : decode cX3_clearKind 57 = .ok (.aload_n 0, 1) := by decide +kernel
theorem dX3_clearKind_58 : decode cX3_clearKind 58 = .ok (.iload 6, 2) := by decide +kernel
theorem dX3_clearKind_60 : decode cX3_clearKind 60 = .ok (.invokevirtual 36, 3) := by decide +kernel
theorem dX3_clearKind_63 : decode cX3_clearKind 63 = .ok (.iload_n 2, 1) := by decide +kernel
theorem dX3_clearKind_64 : decode cX3_clearKind 64 = .ok (.iload 5, 2) := by decide +kernel
theorem dX3_clearKind_66 : decode cX3_clearKind 66 = .ok (.invokevirtual 69, 3) := by decide +kernel
theorem dX3_clearKind_69 : decode cX3_clearKind 69 = .ok (.aload_n 1, 1) := by decide +kernel
theorem dX3_clearKind_70 : decode cX3_clearKind 70 = .ok (.aload_n 0, 1) := by decide +kernel
theorem dX3_clearKind_71 : decode cX3_clearKind 71 = .ok (.iload 6, 2) := by decide +kernel
theorem dX3_clearKind_73 : decode cX3_clearKind 73 = .ok (.invokevirtual 32, 3) := by decide +kernel
theorem dX3_clearKind_76 : decode cX3_clearKind 76 = .ok (.iload 5, 2) := by decide +kernel
theorem dX3_clearKind_78 : decode cX3_clearKind 78 = .ok (.invokevirtual 75, 3) := by decide +kernel
theorem dX3_clearKind_81 : decode cX3_clearKind 81 = .ok (.iinc 6 1, 3) := by decide +kernel
theorem dX3_clearKind_84 : decode cX3_clearKind 84 = .ok (.goto (-43), 3) := by decide +kernel
theorem dX3_clearKind_87 : decode cX3_clearKind 87 = .ok (.aload_n 1, 1) := by decide +kernel
theorem dX3_clearKind_88 : decode cX3_clearKind 88 = .ok (.invokevirtual 78, 3) := by decide +kernel
theorem dX3_clearKind_91 : decode cX3_clearKind 91 = .ok (.iload_n 3, 1) := by decide +kernel
theorem dX3_clearKind_92 : decode cX3_clearKind 92 = .ok (.iload 5, 2) := by decide +kernel
theorem dX3_clearKind_94 : decode cX3_clearKind 94 = .ok (.aload_n 0, 1) := by decide +kernel
theorem dX3_clearKind_95 : decode cX3_clearKind 95 = .ok (.getfield 24, 3) := by decide +kernel
theorem dX3_clearKind_98 : decode cX3_clearKind 98 = .ok (.imul, 1) := by decide +kernel
theorem dX3_clearKind_99 : decode cX3_clearKind 99 = .ok (.iadd, 1) := by decide +kernel
theorem dX3_clearKind_100 : decode cX3_clearKind 100 = .ok (.istore_n 3, 1) := by decide +kernel
theorem dX3_clearKind_101 : decode cX3_clearKind 101 = .ok (.iinc 4 1, 3) := by decide +kernel
theorem dX3_clearKind_104 : decode cX3_clearKind 104 = .ok (.goto (-89), 3) := by decide +kernel
theorem dX3_clearKind_107 : decode cX3_clearKind 107 = .ok (.iload_n 3, 1) := by decide +kernel
theorem dX3_clearKind_108 : decode cX3_clearKind 108 = .ok (.ireturn, 1) := by decide +kernel
set_option maxRecDepth 20000 in
theorem ggX3_findNext_X3_readOwed : GoodIn wsX3_findNext wsX3_readOwed := goodIn_r _ [7, 8, 9, 10, 11, 12, 13, 14, 15, 16, 17, 18, 19, 20, 21, 22, 23, 24, 25, 26, 51, 52, 53, 54, 55, 56, 57, 58, 59, 60, 61, 62, 63, 64, 65, 66, 67, 68] (by decide +kernel) (by decide +kernel)
set_option maxRecDepth 20000 in
theorem gX3_findNext_X3_readOwed : GoodIn wsX3_findNext (wsV RX3 48 RX3 yX3_readOwed wsX3_readOwed) := goodIn_app (goodIn_of _ (by decide +kernel)) ggX3_findNext_X3_readOwed
set_option maxRecDepth 20000 in
theorem ggX3_findNext_X3_measureSteps : GoodIn wsX3_findNext wsX3_measureSteps := goodIn_r _ [30, 31, 32, 33, 23, 34, 22, 24, 35, 36, 37, 6, 38, 8, 51, 52, 53, 54, 55] (by decide +kernel) (by decide +kernel)
set_option maxRecDepth 20000 in
theorem gX3_findNext_X3_measureSteps : GoodIn wsX3_findNext (wsV RX3 52 RX3 yX3_measureSteps wsX3_measureSteps) := goodIn_app (goodIn_of _ (by decide +kernel)) ggX3_findNext_X3_measureSteps
set_option maxRecDepth 20000 in
theorem ggX3_findNext_X3_shortestFrom : GoodIn wsX3_findNext wsX3_shortestFrom := goodIn_r _ [42, 31, 22, 23, 24, 35, 36, 37, 6, 38, 8, 51, 52, 53, 54, 55] (by decide +kernel) (by decide +kernel)
set_option maxRecDepth 20000 in
theorem gX3_findNext_X3_shortestFrom : GoodIn wsX3_findNext (wsV RX3 81 RX3 yX3_shortestFrom wsX3_shortestFrom) := goodIn_app (goodIn_of _ (by decide +kernel)) ggX3_findNext_X3_shortestFrom
set_option maxRecDepth 20000 in
theorem ggX3_findNext_X4_put : GoodIn wsX3_findNext wsX4_put := goodIn_r _ [34] (by decide +kernel) (by decide +kernel)
set_option maxRecDepth 20000 in
theorem gX3_findNext_X4_put_n84 : GoodIn wsX3_findNext (wsX4_put) := ggX3_findNext_X4_put
set_option maxRecDepth 20000 in
theorem ggX3_findNext_X3_nextPupil : GoodIn wsX3_findNext wsX3_nextPupil := goodIn_r _ [46, 2, 22, 23, 24, 51, 52, 53, 54, 55] (by decide +kernel) (by decide +kernel)
set_option maxRecDepth 20000 in
theorem gX3_findNext_X3_nextPupil : GoodIn wsX3_findNext (wsV RX3 32 RX3 yX3_nextPupil wsX3_nextPupil) := goodIn_app (goodIn_of _ (by decide +kernel)) ggX3_findNext_X3_nextPupil
set_option maxRecDepth 20000 in
theorem ggX3_findNext_X3_lowestBehind : GoodIn wsX3_findNext wsX3_lowestBehind := goodIn_r _ [50, 31, 22, 23, 24, 35, 36, 37, 6, 38, 8, 51, 52, 53, 54, 55] (by decide +kernel) (by decide +kernel)
set_option maxRecDepth 20000 in
theorem gX3_findNext_X3_lowestBehind : GoodIn wsX3_findNext (wsV RX3 88 RX3 yX3_lowestBehind wsX3_lowestBehind) := goodIn_app (goodIn_of _ (by decide +kernel)) ggX3_findNext_X3_lowestBehind
theorem dX3_findNext_0 : decode cX3_findNext 0 = .ok (.aload_n 0, 1) := by decide +kernel
theorem dX3_findNext_1 : decode cX3_findNext 1 = .ok (.aload_n 1, 1) := by decide +kernel
theorem dX3_findNext_2 : decode cX3_findNext 2 = .ok (.iload_n 2, 1) := by decide +kernel
theorem dX3_findNext_3 : decode cX3_findNext 3 = .ok (.invokevirtual 48, 3) := by decide +kernel
theorem dX3_findNext_6 : decode cX3_findNext 6 = .ok (.aload_n 0, 1) := by decide +kernel
theorem dX3_findNext_7 : decode cX3_findNext 7 = .ok (.iconst 0, 1) := by decide +kernel
theorem dX3_findNext_8 : decode cX3_findNext 8 = .ok (.putfield 24, 3) := by decide +kernel
theorem dX3_findNext_11 : decode cX3_findNext 11 = .ok (.iconst (-1), 1) := by decide +kernel
theorem dX3_findNext_12 : decode cX3_findNext 12 = .ok (.istore_n 3, 1) := by decide +kernel
theorem dX3_findNext_13 : decode cX3_findNext 13 = .ok (.iconst 0, 1) := by decide +kernel
theorem dX3_findNext_14 : decode cX3_findNext 14 = .ok (.istore 4, 2) := by decide +kernel
theorem dX3_findNext_16 : decode cX3_findNext 16 = .ok (.iload 4, 2) := by decide +kernel
theorem dX3_findNext_18 : decode cX3_findNext 18 = .ok (.bipush 8, 2) := by decide +kernel
theorem dX3_findNext_20 : decode cX3_findNext 20 = .ok (.if_icmp .ge 52, 3) := by decide +kernel
theorem dX3_findNext_23 : decode cX3_findNext 23 = .ok (.aload_n 0, 1) := by decide +kernel
theorem dX3_findNext_24 : decode cX3_findNext 24 = .ok (.iload 4, 2) := by decide +kernel
theorem dX3_findNext_26 : decode cX3_findNext 26 = .ok (.iload 4, 2) := by decide +kernel
theorem dX3_findNext_28 : decode cX3_findNext 28 = .ok (.invokevirtual 52, 3) := by decide +kernel
theorem dX3_findNext_31 : decode cX3_findNext 31 = .ok (.aload_n 0, 1) := by decide +kernel
theorem dX3_findNext_32 : decode cX3_findNext 32 = .ok (.iload 4, 2) := by decide +kernel
theorem dX3_findNext_34 : decode cX3_findNext 34 = .ok (.invokevirtual 81, 3) := by decide +kernel
theorem dX3_findNext_37 : decode cX3_findNext 37 = .ok (.istore 5, 2) := by decide +kernel
theorem dX3_findNext_39 : decode cX3_findNext 39 = .ok (.iload 5, 2) := by decide +kernel
theorem dX3_findNext_41 : decode cX3_findNext 41 = .ok (.ifCond .le 25, 3) := by decide +kernel
theorem dX3_findNext_44 : decode cX3_findNext 44 = .ok (.iload_n 3, 1) := by decide +kernel
theorem dX3_findNext_45 : decode cX3_findNext 45 = .ok (.ifCond .lt 12, 3) := by decide +kernel
theorem dX3_findNext_48 : decode cX3_findNext 48 = .ok (.iload 5, 2) := by decide +kernel
theorem dX3_findNext_50 : decode cX3_findNext 50 = .ok (.aload_n 0, 1) := by decide +kernel
theorem dX3_findNext_51 : decode cX3_findNext 51 = .ok (.getfield 24, 3) := by decide +kernel
theorem dX3_findNext_54 : decode cX3_findNext 54 = .ok (.if_icmp .ge 12, 3) := by decide +kernel
theorem dX3_findNext_57 : decode cX3_findNext 57 = .ok (.iload 4, 2) := by decide +kernel
theorem dX3_findNext_59 : decode cX3_findNext 59 = .ok (.istore_n 3, 1) := by decide +kernel
theorem dX3_findNext_60 : decode cX3_findNext 60 = .ok (.aload_n 0, 1) := by decide +kernel
theorem dX3_findNext_61 : decode cX3_findNext 61 = .ok (.iload 5, 2) := by decide +kernel
theorem dX3_findNext_63 : decode cX3_findNext 63 = .ok (.putfield 24, 3) := by decide +kernel
theorem dX3_findNext_66 : decode cX3_findNext 66 = .ok (.iinc 4 1, 3) := by decide +kernel
theorem dX3_findNext_69 : decode cX3_findNext 69 = .ok (.goto (-53), 3) := by decide +kernel
theorem dX3_findNext_72 : decode cX3_findNext 72 = .ok (.iload_n 3, 1) := by decide +kernel
theorem dX3_findNext_73 : decode cX3_findNext 73 = .ok (.ifCond .ge 5, 3) := by decide +kernel
theorem dX3_findNext_76 : decode cX3_findNext 76 = .ok (.iconst 0, 1) := by decide +kernel
theorem dX3_findNext_77 : decode cX3_findNext 77 = .ok (.ireturn, 1) := by decide +kernel
theorem dX3_findNext_78 : decode cX3_findNext 78 = .ok (.aload_n 0, 1) := by decide +kernel
theorem dX3_findNext_79 : decode cX3_findNext 79 = .ok (.iload_n 3, 1) := by decide +kernel
theorem dX3_findNext_80 : decode cX3_findNext 80 = .ok (.iload_n 3, 1) := by decide +kernel
theorem dX3_findNext_81 : decode cX3_findNext 81 = .ok (.invokevirtual 52, 3) := by decide +kernel
theorem dX3_findNext_84 : decode cX3_findNext 84 = .ok (.aload_n 0, 1) := by decide +kernel
theorem dX3_findNext_85 : decode cX3_findNext 85 = .ok (.getfield 21, 3) := by decide +kernel
theorem dX3_findNext_88 : decode cX3_findNext 88 = .ok (.iconst 0, 1) := by decide +kernel
theorem dX3_findNext_89 : decode cX3_findNext 89 = .ok (.iload_n 3, 1) := by decide +kernel
theorem dX3_findNext_90 : decode cX3_findNext 90 = .ok (.invokestatic 84, 3) := by decide +kernel
theorem dX3_findNext_93 : decode cX3_findNext 93 = .ok (.iconst 1, 1) := by decide +kernel
theorem dX3_findNext_94 : decode cX3_findNext 94 = .ok (.istore 4, 2) := by decide +kernel
theorem dX3_findNext_96 : decode cX3_findNext 96 = .ok (.iload 4, 2) := by decide +kernel
theorem dX3_findNext_98 : decode cX3_findNext 98 = .ok (.aload_n 0, 1) := by decide +kernel
theorem dX3_findNext_99 : decode cX3_findNext 99 = .ok (.getfield 24, 3) := by decide +kernel
theorem dX3_findNext_102 : decode cX3_findNext 102 = .ok (.if_icmp .ge 37, 3) := by decide +kernel
theorem dX3_findNext_105 : decode cX3_findNext 105 = .ok (.aload_n 0, 1) := by decide +kernel
theorem dX3_findNext_106 : decode cX3_findNext 106 = .ok (.getfield 21, 3) := by decide +kernel
theorem dX3_findNext_109 : decode cX3_findNext 109 = .ok (.iload 4, 2) := by decide +kernel
theorem dX3_findNext_111 : decode cX3_findNext 111 = .ok (.aload_n 0, 1) := by decide +kernel
theorem dX3_findNext_112 : decode cX3_findNext 112 = .ok (.aload_n 0, 1) := by decide +kernel
theorem dX3_findNext_113 : decode cX3_findNext 113 = .ok (.iload 4, 2) := by decide +kernel
theorem dX3_findNext_115 : decode cX3_findNext 115 = .ok (.iconst 1, 1) := by decide +kernel
theorem dX3_findNext_116 : decode cX3_findNext 116 = .ok (.isub, 1) := by decide +kernel
theorem dX3_findNext_117 : decode cX3_findNext 117 = .ok (.invokevirtual 32, 3) := by decide +kernel
theorem dX3_findNext_120 : decode cX3_findNext 120 = .ok (.aload_n 0, 1) := by decide +kernel
theorem dX3_findNext_121 : decode cX3_findNext 121 = .ok (.getfield 24, 3) := by decide +kernel
theorem dX3_findNext_124 : decode cX3_findNext 124 = .ok (.iload 4, 2) := by decide +kernel
theorem dX3_findNext_126 : decode cX3_findNext 126 = .ok (.isub, 1) := by decide +kernel
theorem dX3_findNext_127 : decode cX3_findNext 127 = .ok (.invokevirtual 88, 3) := by decide +kernel
theorem dX3_findNext_130 : decode cX3_findNext 130 = .ok (.invokestatic 84, 3) := by decide +kernel
theorem dX3_findNext_133 : decode cX3_findNext 133 = .ok (.iinc 4 1, 3) := by decide +kernel
theorem dX3_findNext_136 : decode cX3_findNext 136 = .ok (.goto (-40), 3) := by decide +kernel
theorem dX3_findNext_139 : decode cX3_findNext 139 = .ok (.iconst 1, 1) := by decide +kernel
theorem dX3_findNext_140 : decode cX3_findNext 140 = .ok (.ireturn, 1) := by decide +kernel
set_option maxRecDepth 20000 in
theorem ggX3_readOwed_X0_number : GoodIn wsX3_readOwed wsX0_number := goodIn_r _ [6, 7, 25, 26, 27, 28, 29, 30, 31, 32, 33, 34, 35, 36, 37] (by decide +kernel) (by decide +kernel)
set_option maxRecDepth 20000 in
theorem gX3_readOwed_X0_number : GoodIn wsX3_readOwed (wsV RX3 91 RX0 yX0_number wsX0_number) := goodIn_app (goodIn_of _ (by decide +kernel)) ggX3_readOwed_X0_number
set_option maxRecDepth 20000 in
theorem ggX3_readOwed_X0_isLotOf : GoodIn wsX3_readOwed wsX0_isLotOf := goodIn_r _ [11, 12, 13, 14, 25, 26, 27, 28, 29, 30, 31, 32, 33, 34, 35, 36, 37] (by decide +kernel) (by decide +kernel)
set_option maxRecDepth 20000 in
theorem gX3_readOwed_X0_isLotOf : GoodIn wsX3_readOwed (wsV RX3 94 RX0 yX0_isLotOf wsX0_isLotOf) := goodIn_app (goodIn_of _ (by decide +kernel)) ggX3_readOwed_X0_isLotOf
set_option maxRecDepth 20000 in
theorem ggX3_readOwed_X4_at : GoodIn wsX3_readOwed wsX4_at := goodIn_r _ [17] (by decide +kernel) (by decide +kernel)
set_option maxRecDepth 20000 in
theorem gX3_readOwed_X4_at_n28 : GoodIn wsX3_readOwed (wsX4_at) := ggX3_readOwed_X4_at
set_option maxRecDepth 20000 in
theorem ggX3_readOwed_X4_add : GoodIn wsX3_readOwed wsX4_add := goodIn_r _ [19] (by decide +kernel) (by decide +kernel)
set_option maxRecDepth 20000 in
theorem gX3_readOwed_X4_add_n107 : GoodIn wsX3_readOwed (wsX4_add) := ggX3_readOwed_X4_add
theorem dX3_readOwed_0 : decode cX3_readOwed 0 = .ok (.iconst 0, 1) := by decide +kernel
theorem dX3_readOwed_1 : decode cX3_readOwed 1 = .ok (.istore_n 3, 1) := by decide +kernel
theorem dX3_readOwed_2 : decode cX3_readOwed 2 = .ok (.iload_n 3, 1) := by decide +kernel
theorem dX3_readOwed_3 : decode cX3_readOwed 3 = .ok (.aload_n 0, 1) := by decide +kernel
theorem dX3_readOwed_4 : decode cX3_readOwed 4 = .ok (.getfield 9, 3) := by decide +kernel
theorem dX3_readOwed_7 : decode cX3_readOwed 7 = .ok (.arraylength, 1) := by decide +kernel
theorem dX3_readOwed_8 : decode cX3_readOwed 8 = .ok (.if_icmp .ge 16, 3) := by decide +kernel
theorem dX3_readOwed_11 : decode cX3_readOwed 11 = .ok (.aload_n 0, 1) := by decide +kernel
theorem dX3_readOwed_12 : decode cX3_readOwed 12 = .ok (.getfield 9, 3) := by decide +kernel
theorem dX3_readOwed_15 : decode cX3_readOwed 15 = .ok (.iload_n 3, 1) := by decide +kernel
theorem dX3_readOwed_16 : decode cX3_readOwed 16 = .ok (.iconst 0, 1) := by decide +kernel
theorem dX3_readOwed_17 : decode cX3_readOwed 17 = .ok (.iastore, 1) := by decide +kernel
theorem dX3_readOwed_18 : decode cX3_readOwed 18 = .ok (.iinc 3 1, 3) := by decide +kernel
theorem dX3_readOwed_21 : decode cX3_readOwed 21 = .ok (.goto (-19), 3) := by decide +kernel
theorem dX3_readOwed_24 : decode cX3_readOwed 24 = .ok (.iconst 0, 1) := by decide +kernel
theorem dX3_readOwed_25 : decode cX3_readOwed 25 = .ok (.istore_n 3, 1) := by decide +kernel
theorem dX3_readOwed_26 : decode cX3_readOwed 26 = .ok (.iload_n 3, 1) := by decide +kernel
theorem dX3_readOwed_27 : decode cX3_readOwed 27 = .ok (.aload_n 1, 1) := by decide +kernel
theorem dX3_readOwed_28 : decode cX3_readOwed 28 = .ok (.iconst 2, 1) := by decide +kernel
theorem dX3_readOwed_29 : decode cX3_readOwed 29 = .ok (.invokevirtual 91, 3) := by decide +kernel
theorem dX3_readOwed_32 : decode cX3_readOwed 32 = .ok (.if_icmp .ge 59, 3) := by decide +kernel
theorem dX3_readOwed_35 : decode cX3_readOwed 35 = .ok (.aload_n 1, 1) := by decide +kernel
theorem dX3_readOwed_36 : decode cX3_readOwed 36 = .ok (.iload_n 3, 1) := by decide +kernel
theorem dX3_readOwed_37 : decode cX3_readOwed 37 = .ok (.iconst (-1), 1) := by decide +kernel
theorem dX3_readOwed_38 : decode cX3_readOwed 38 = .ok (.iconst (-1), 1) := by decide +kernel
theorem dX3_readOwed_39 : decode cX3_readOwed 39 = .ok (.iload_n 2, 1) := by decide +kernel
theorem dX3_readOwed_40 : decode cX3_readOwed 40 = .ok (.invokevirtual 94, 3) := by decide +kernel
theorem dX3_readOwed_43 : decode cX3_readOwed 43 = .ok (.ifCond .eq 42, 3) := by decide +kernel
theorem dX3_readOwed_46 : decode cX3_readOwed 46 = .ok (.aload_n 1, 1) := by decide +kernel
theorem dX3_readOwed_47 : decode cX3_readOwed 47 = .ok (.getfield 98, 3) := by decide +kernel
theorem dX3_readOwed_50 : decode cX3_readOwed 50 = .ok (.iload_n 3, 1) := by decide +kernel
theorem dX3_readOwed_51 : decode cX3_readOwed 51 = .ok (.invokestatic 28, 3) := by decide +kernel
theorem dX3_readOwed_54 : decode cX3_readOwed 54 = .ok (.bipush 8, 2) := by decide +kernel
theorem dX3_readOwed_56 : decode cX3_readOwed 56 = .ok (.imul, 1) := by decide +kernel
theorem dX3_readOwed_57 : decode cX3_readOwed 57 = .ok (.aload_n 1, 1) := by decide +kernel
theorem dX3_readOwed_58 : decode cX3_readOwed 58 = .ok (.getfield 101, 3) := by decide +kernel
theorem dX3_readOwed_61 : decode cX3_readOwed 61 = .ok (.iload_n 3, 1) := by decide +kernel
theorem dX3_readOwed_62 : decode cX3_readOwed 62 = .ok (.invokestatic 28, 3) := by decide +kernel
theorem dX3_readOwed_65 : decode cX3_readOwed 65 = .ok (.iadd, 1) := by decide +kernel
theorem dX3_readOwed_66 : decode cX3_readOwed 66 = .ok (.istore 4, 2) := by decide +kernel
theorem dX3_readOwed_68 : decode cX3_readOwed 68 = .ok (.aload_n 0, 1) := by decide +kernel
theorem dX3_readOwed_69 : decode cX3_readOwed 69 = .ok (.getfield 9, 3) := by decide +kernel
theorem dX3_readOwed_72 : decode cX3_readOwed 72 = .ok (.iload 4, 2) := by decide +kernel
theorem dX3_readOwed_74 : decode cX3_readOwed 74 = .ok (.aload_n 1, 1) := by decide +kernel
theorem dX3_readOwed_75 : decode cX3_readOwed 75 = .ok (.getfield 104, 3) := by decide +kernel
theorem dX3_readOwed_78 : decode cX3_readOwed 78 = .ok (.iload_n 3, 1) := by decide +kernel
theorem dX3_readOwed_79 : decode cX3_readOwed 79 = .ok (.invokestatic 28, 3) := by decide +kernel
theorem dX3_readOwed_82 : decode cX3_readOwed 82 = .ok (.invokestatic 107, 3) := by decide +kernel
theorem dX3_readOwed_85 : decode cX3_readOwed 85 = .ok (.iinc 3 1, 3) := by decide +kernel
theorem dX3_readOwed_88 : decode cX3_readOwed 88 = .ok (.goto (-62), 3) := by decide +kernel
theorem dX3_readOwed_91 : decode cX3_readOwed 91 = .ok (.return_, 1) := by decide +kernel
theorem dX3_owedBetween_0 : decode cX3_owedBetween 0 = .ok (.iload_n 1, 1) := by decide +kernel
theorem dX3_owedBetween_1 : decode cX3_owedBetween 1 = .ok (.bipush 8, 2) := by decide +kernel
theorem dX3_owedBetween_3 : decode cX3_owedBetween 3 = .ok (.imul, 1) := by decide +kernel
theorem dX3_owedBetween_4 : decode cX3_owedBetween 4 = .ok (.iload_n 2, 1) := by decide +kernel
theorem dX3_owedBetween_5 : decode cX3_owedBetween 5 = .ok (.iadd, 1) := by decide +kernel
theorem dX3_owedBetween_6 : decode cX3_owedBetween 6 = .ok (.istore_n 3, 1) := by decide +kernel
theorem dX3_owedBetween_7 : decode cX3_owedBetween 7 = .ok (.iload_n 3, 1) := by decide +kernel
theorem dX3_owedBetween_8 : decode cX3_owedBetween 8 = .ok (.ifCond .lt 21, 3) := by decide +kernel
theorem dX3_owedBetween_11 : decode cX3_owedBetween 11 = .ok (.iload_n 3, 1) := by decide +kernel
theorem dX3_owedBetween_12 : decode cX3_owedBetween 12 = .ok (.aload_n 0, 1) := by decide +kernel
theorem dX3_owedBetween_13 : decode cX3_owedBetween 13 = .ok (.getfield 9, 3) := by decide +kernel
theorem dX3_owedBetween_16 : decode cX3_owedBetween 16 = .ok (.arraylength, 1) := by decide +kernel
theorem dX3_owedBetween_17 : decode cX3_owedBetween 17 = .ok (.if_icmp .ge 12, 3) := by decide +kernel
theorem dX3_owedBetween_20 : decode cX3_owedBetween 20 = .ok (.aload_n 0, 1) := by decide +kernel
theorem dX3_owedBetween_21 : decode cX3_owedBetween 21 = .ok (.getfield 9, 3) := by decide +kernel
theorem dX3_owedBetween_24 : decode cX3_owedBetween 24 = .ok (.iload_n 3, 1) := by decide +kernel
theorem dX3_owedBetween_25 : decode cX3_owedBetween 25 = .ok (.iaload, 1) := by decide +kernel
theorem dX3_owedBetween_26 : decode cX3_owedBetween 26 = .ok (.goto 4, 3) := by decide +kernel
theorem dX3_owedBetween_29 : decode cX3_owedBetween 29 = .ok (.iconst 0, 1) := by decide +kernel
theorem dX3_owedBetween_30 : decode cX3_owedBetween 30 = .ok (.ireturn, 1) := by decide +kernel
set_option maxRecDepth 20000 in
theorem ggX3_measureSteps_X4_put : GoodIn wsX3_measureSteps wsX4_put := goodIn_r _ [5] (by decide +kernel) (by decide +kernel)
set_option maxRecDepth 20000 in
theorem gX3_measureSteps_X4_put_n84 : GoodIn wsX3_measureSteps (wsX4_put) := ggX3_measureSteps_X4_put
set_option maxRecDepth 20000 in
theorem ggX3_measureSteps_X4_at : GoodIn wsX3_measureSteps wsX4_at := goodIn_r _ [7] (by decide +kernel) (by decide +kernel)
set_option maxRecDepth 20000 in
theorem gX3_measureSteps_X4_at_n28 : GoodIn wsX3_measureSteps (wsX4_at) := ggX3_measureSteps_X4_at
set_option maxRecDepth 20000 in
theorem ggX3_measureSteps_X3_owedBetween : GoodIn wsX3_measureSteps wsX3_owedBetween := goodIn_r _ [12, 13, 14, 15, 16, 17, 18] (by decide +kernel) (by decide +kernel)
set_option maxRecDepth 20000 in
theorem gX3_measureSteps_X3_owedBetween : GoodIn wsX3_measureSteps (wsV RX3 39 RX3 yX3_owedBetween wsX3_owedBetween) := goodIn_app (goodIn_of _ (by decide +kernel)) ggX3_measureSteps_X3_owedBetween
theorem dX3_measureSteps_0 : decode cX3_measureSteps 0 = .ok (.iconst 0, 1) := by decide +kernel
theorem dX3_measureSteps_1 : decode cX3_measureSteps 1 = .ok (.istore_n 3, 1) := by decide +kernel
theorem dX3_measureSteps_2 : decode cX3_measureSteps 2 = .ok (.iload_n 3, 1) := by decide +kernel
theorem dX3_measureSteps_3 : decode cX3_measureSteps 3 = .ok (.aload_n 0, 1) := by decide +kernel
theorem dX3_measureSteps_4 : decode cX3_measureSteps 4 = .ok (.getfield 15, 3) := by decide +kernel
theorem dX3_measureSteps_7 : decode cX3_measureSteps 7 = .ok (.arraylength, 1) := by decide +kernel
theorem dX3_measureSteps_8 : decode cX3_measureSteps 8 = .ok (.if_icmp .ge 16, 3) := by decide +kernel
theorem dX3_measureSteps_11 : decode cX3_measureSteps 11 = .ok (.aload_n 0, 1) := by decide +kernel
theorem dX3_measureSteps_12 : decode cX3_measureSteps 12 = .ok (.getfield 15, 3) := by decide +kernel
theorem dX3_measureSteps_15 : decode cX3_measureSteps 15 = .ok (.iload_n 3, 1) := by decide +kernel
theorem dX3_measureSteps_16 : decode cX3_measureSteps 16 = .ok (.iconst 0, 1) := by decide +kernel
theorem dX3_measureSteps_17 : decode cX3_measureSteps 17 = .ok (.iastore, 1) := by decide +kernel
theorem dX3_measureSteps_18 : decode cX3_measureSteps 18 = .ok (.iinc 3 1, 3) := by decide +kernel
theorem dX3_measureSteps_21 : decode cX3_measureSteps 21 = .ok (.goto (-19), 3) := by decide +kernel
theorem dX3_measureSteps_24 : decode cX3_measureSteps 24 = .ok (.aload_n 0, 1) := by decide +kernel
theorem dX3_measureSteps_25 : decode cX3_measureSteps 25 = .ok (.getfield 18, 3) := by decide +kernel
theorem dX3_measureSteps_28 : decode cX3_measureSteps 28 = .ok (.iconst 0, 1) := by decide +kernel
theorem dX3_measureSteps_29 : decode cX3_measureSteps 29 = .ok (.iload_n 1, 1) := by decide +kernel
theorem dX3_measureSteps_30 : decode cX3_measureSteps 30 = .ok (.invokestatic 84, 3) := by decide +kernel
theorem dX3_measureSteps_33 : decode cX3_measureSteps 33 = .ok (.iconst 1, 1) := by decide +kernel
theorem dX3_measureSteps_34 : decode cX3_measureSteps 34 = .ok (.istore_n 3, 1) := by decide +kernel
theorem dX3_measureSteps_35 : decode cX3_measureSteps 35 = .ok (.iconst 0, 1) := by decide +kernel
theorem dX3_measureSteps_36 : decode cX3_measureSteps 36 = .ok (.istore 4, 2) := by decide +kernel
theorem dX3_measureSteps_38 : decode cX3_measureSteps 38 = .ok (.iload 4, 2) := by decide +kernel
theorem dX3_measureSteps_40 : decode cX3_measureSteps 40 = .ok (.bipush 8, 2) := by decide +kernel
theorem dX3_measureSteps_42 : decode cX3_measureSteps 42 = .ok (.if_icmp .ge 104, 3) := by decide +kernel
theorem dX3_measureSteps_45 : decode cX3_measureSteps 45 = .ok (.iload 4, 2) := by decide +kernel
theorem dX3_measureSteps_47 : decode cX3_measureSteps 47 = .ok (.iload_n 3, 1) := by decide +kernel
theorem dX3_measureSteps_48 : decode cX3_measureSteps 48 = .ok (.if_icmp .ge 98, 3) := by decide +kernel
theorem dX3_measureSteps_51 : decode cX3_measureSteps 51 = .ok (.aload_n 0, 1) := by decide +kernel
theorem dX3_measureSteps_52 : decode cX3_measureSteps 52 = .ok (.getfield 18, 3) := by decide +kernel
theorem dX3_measureSteps_55 : decode cX3_measureSteps 55 = .ok (.iload 4, 2) := by decide +kernel
theorem dX3_measureSteps_57 : decode cX3_measureSteps 57 = .ok (.invokestatic 28, 3) := by decide +kernel
theorem dX3_measureSteps_60 : decode cX3_measureSteps 60 = .ok (.istore 5, 2) := by decide +kernel
theorem dX3_measureSteps_62 : decode cX3_measureSteps 62 = .ok (.iload_n 2, 1) := by decide +kernel
theorem dX3_measureSteps_63 : decode cX3_measureSteps 63 = .ok (.istore 6, 2) := by decide +kernel
theorem dX3_measureSteps_65 : decode cX3_measureSteps 65 = .ok (.iload 6, 2) := by decide +kernel
theorem dX3_measureSteps_67 : decode cX3_measureSteps 67 = .ok (.bipush 8, 2) := by decide +kernel
theorem dX3_measureSteps_69 : decode cX3_measureSteps 69 = .ok (.if_icmp .ge 71, 3) := by decide +kernel
theorem dX3_measureSteps_72 : decode cX3_measureSteps 72 = .ok (.iload 6, 2) := by decide +kernel
theorem dX3_measureSteps_74 : decode cX3_measureSteps 74 = .ok (.iload_n 1, 1) := by decide +kernel
theorem dX3_measureSteps_75 : decode cX3_measureSteps 75 = .ok (.if_icmp .eq 59, 3) := by decide +kernel
theorem dX3_measureSteps_78 : decode cX3_measureSteps 78 = .ok (.aload_n 0, 1) := by decide +kernel
theorem dX3_measureSteps_79 : decode cX3_measureSteps 79 = .ok (.getfield 15, 3) := by decide +kernel
theorem dX3_measureSteps_82 : decode cX3_measureSteps 82 = .ok (.iload 6, 2) := by decide +kernel
theorem dX3_measureSteps_84 : decode cX3_measureSteps 84 = .ok (.invokestatic 28, 3) := by decide +kernel
theorem dX3_measureSteps_87 : decode cX3_measureSteps 87 = .ok (.ifCond .ne 47, 3) := by decide +kernel
theorem dX3_measureSteps_90 : decode cX3_measureSteps 90 = .ok (.aload_n 0, 1) := by decide +kernel
theorem dX3_measureSteps_91 : decode cX3_measureSteps 91 = .ok (.iload 6, 2) := by decide +kernel
theorem dX3_measureSteps_93 : decode cX3_measureSteps 93 = .ok (.iload 5, 2) := by decide +kernel
theorem dX3_measureSteps_95 : decode cX3_measureSteps 95 = .ok (.invokevirtual 39, 3) := by decide +kernel
theorem dX3_measureSteps_98 : decode cX3_measureSteps 98 = .ok (.ifCond .le 36, 3) := by decide +kernel
theorem dX3_measureSteps_101 : decode cX3_measureSteps 101 = .ok (.aload_n 0, 1) := by decide +kernel
theorem dX3_measureSteps_102 : decode cX3_measureSteps 102 = .ok (.getfield 15, 3) := by decide +kernel
theorem dX3_measureSteps_105 : decode cX3_measureSteps 105 = .ok (.iload 6, 2) := by decide +kernel
theorem dX3_measureSteps_107 : decode cX3_measureSteps 107 = .ok (.aload_n 0, 1) := by decide +kernel
theorem dX3_measureSteps_108 : decode cX3_measureSteps 108 = .ok (.getfield 15, 3) := by decide +kernel
theorem dX3_measureSteps_111 : decode cX3_measureSteps 111 = .ok (.iload 5, 2) := by decide +kernel
theorem dX3_measureSteps_113 : decode cX3_measureSteps 113 = .ok (.invokestatic 28, 3) := by decide +kernel
theorem dX3_measureSteps_116 : decode cX3_measureSteps 116 = .ok (.iconst 1, 1) := by decide +kernel
theorem dX3_measureSteps_117 : decode cX3_measureSteps 117 = .ok (.iadd, 1) := by decide +kernel
theorem dX3_measureSteps_118 : decode cX3_measureSteps 118 = .ok (.invokestatic 84, 3) := by decide +kernel
theorem dX3_measureSteps_121 : decode cX3_measureSteps 121 = .ok (.aload_n 0, 1) := by decide +kernel
theorem dX3_measureSteps_122 : decode cX3_measureSteps 122 = .ok (.getfield 18, 3) := by decide +kernel
theorem dX3_measureSteps_125 : decode cX3_measureSteps 125 = .ok (.iload_n 3, 1) := by decide +kernel
theorem dX3_measureSteps_126 : decode cX3_measureSteps 126 = .ok (.iload 6, 2) := by decide +kernel
theorem dX3_measureSteps_128 : decode cX3_measureSteps 128 = .ok (.invokestatic 84, 3) := by decide +kernel
theorem dX3_measureSteps_131 : decode cX3_measureSteps 131 = .ok (.iinc 3 1, 3) := by decide +kernel
theorem dX3_measureSteps_134 : decode cX3_measureSteps 134 = .ok (.iinc 6 1, 3) := by decide +kernel
theorem dX3_measureSteps_137 : decode cX3_measureSteps 137 = .ok (.goto (-72), 3) := by decide +kernel
theorem dX3_measureSteps_140 : decode cX3_measureSteps 140 = .ok (.iinc 4 1, 3) := by decide +kernel
theorem dX3_measureSteps_143 : decode cX3_measureSteps 143 = .ok (.goto (-105), 3) := by decide +kernel
theorem dX3_measureSteps_146 : decode cX3_measureSteps 146 = .ok (.return_, 1) := by decide +kernel
set_option maxRecDepth 20000 in
theorem ggX3_shortestFrom_X4_at : GoodIn wsX3_shortestFrom wsX4_at := goodIn_r _ [4] (by decide +kernel) (by decide +kernel)
set_option maxRecDepth 20000 in
theorem gX3_shortestFrom_X4_at_n28 : GoodIn wsX3_shortestFrom (wsX4_at) := ggX3_shortestFrom_X4_at
set_option maxRecDepth 20000 in
theorem ggX3_shortestFrom_X3_owedBetween : GoodIn wsX3_shortestFrom wsX3_owedBetween := goodIn_r _ [9, 10, 11, 12, 13, 14, 15] (by decide +kernel) (by decide +kernel)
set_option maxRecDepth 20000 in
theorem gX3_shortestFrom_X3_owedBetween : GoodIn wsX3_shortestFrom (wsV RX3 39 RX3 yX3_owedBetween wsX3_owedBetween) := goodIn_app (goodIn_of _ (by decide +kernel)) ggX3_shortestFrom_X3_owedBetween
theorem dX3_shortestFrom_0 : decode cX3_shortestFrom 0 = .ok (.iconst 0, 1) := by decide +kernel
theorem dX3_shortestFrom_1 : decode cX3_shortestFrom 1 = .ok (.istore_n 2, 1) := by decide +kernel
theorem dX3_shortestFrom_2 : decode cX3_shortestFrom 2 = .ok (.iload_n 1, 1) := by decide +kernel
theorem dX3_shortestFrom_3 : decode cX3_shortestFrom 3 = .ok (.iconst 1, 1) := by decide +kernel
theorem dX3_shortestFrom_4 : decode cX3_shortestFrom 4 = .ok (.iadd, 1) := by decide +kernel
theorem dX3_shortestFrom_5 : decode cX3_shortestFrom 5 = .ok (.istore_n 3, 1) := by decide +kernel
theorem dX3_shortestFrom_6 : decode cX3_shortestFrom 6 = .ok (.iload_n 3, 1) := by decide +kernel
theorem dX3_shortestFrom_7 : decode cX3_shortestFrom 7 = .ok (.bipush 8, 2) := by decide +kernel
theorem dX3_shortestFrom_9 : decode cX3_shortestFrom 9 = .ok (.if_icmp .ge 61, 3) := by decide +kernel
theorem dX3_shortestFrom_12 : decode cX3_shortestFrom 12 = .ok (.aload_n 0, 1) := by decide +kernel
theorem dX3_shortestFrom_13 : decode cX3_shortestFrom 13 = .ok (.getfield 15, 3) := by decide +kernel
theorem dX3_shortestFrom_16 : decode cX3_shortestFrom 16 = .ok (.iload_n 3, 1) := by decide +kernel
theorem dX3_shortestFrom_17 : decode cX3_shortestFrom 17 = .ok (.invokestatic 28, 3) := by decide +kernel
theorem dX3_shortestFrom_20 : decode cX3_shortestFrom 20 = .ok (.iconst 1, 1) := by decide +kernel
theorem dX3_shortestFrom_21 : decode cX3_shortestFrom 21 = .ok (.iadd, 1) := by decide +kernel
theorem dX3_shortestFrom_22 : decode cX3_shortestFrom 22 = .ok (.istore 4, 2) := by decide +kernel
theorem dX3_shortestFrom_24 : decode cX3_shortestFrom 24 = .ok (.iload 4, 2) := by decide +kernel
theorem dX3_shortestFrom_26 : decode cX3_shortestFrom 26 = .ok (.iconst 1, 1) := by decide +kernel
theorem dX3_shortestFrom_27 : decode cX3_shortestFrom 27 = .ok (.if_icmp .le 16, 3) := by decide +kernel
theorem dX3_shortestFrom_30 : decode cX3_shortestFrom 30 = .ok (.aload_n 0, 1) := by decide +kernel
theorem dX3_shortestFrom_31 : decode cX3_shortestFrom 31 = .ok (.iload_n 1, 1) := by decide +kernel
theorem dX3_shortestFrom_32 : decode cX3_shortestFrom 32 = .ok (.iload_n 3, 1) := by decide +kernel
theorem dX3_shortestFrom_33 : decode cX3_shortestFrom 33 = .ok (.invokevirtual 39, 3) := by decide +kernel
theorem dX3_shortestFrom_36 : decode cX3_shortestFrom 36 = .ok (.ifCond .le 7, 3) := by decide +kernel
theorem dX3_shortestFrom_39 : decode cX3_shortestFrom 39 = .ok (.iconst 1, 1) := by decide +kernel
theorem dX3_shortestFrom_40 : decode cX3_shortestFrom 40 = .ok (.goto 4, 3) := by decide +kernel
theorem dX3_shortestFrom_43 : decode cX3_shortestFrom 43 = .ok (.iconst 0, 1) := by decide +kernel
theorem dX3_shortestFrom_44 : decode cX3_shortestFrom 44 = .ok (.istore 5, 2) := by decide +kernel
theorem dX3_shortestFrom_46 : decode cX3_shortestFrom 46 = .ok (.iload 5, 2) := by decide +kernel
theorem dX3_shortestFrom_48 : decode cX3_shortestFrom 48 = .ok (.ifCond .eq 16, 3) := by decide +kernel
theorem dX3_shortestFrom_51 : decode cX3_shortestFrom 51 = .ok (.iload_n 2, 1) := by decide +kernel
theorem dX3_shortestFrom_52 : decode cX3_shortestFrom 52 = .ok (.ifCond .eq 9, 3) := by decide +kernel
theorem dX3_shortestFrom_55 : decode cX3_shortestFrom 55 = .ok (.iload 4, 2) := by decide +kernel
theorem dX3_shortestFrom_57 : decode cX3_shortestFrom 57 = .ok (.iload_n 2, 1) := by decide +kernel
theorem dX3_shortestFrom_58 : decode cX3_shortestFrom 58 = .ok (.if_icmp .ge 6, 3) := by decide +kernel
theorem dX3_shortestFrom_61 : decode cX3_shortestFrom 61 = .ok (.iload 4, 2) := by decide +kernel
theorem dX3_shortestFrom_63 : decode cX3_shortestFrom 63 = .ok (.istore_n 2, 1) := by decide +kernel
theorem dX3_shortestFrom_64 : decode cX3_shortestFrom 64 = .ok (.iinc 3 1, 3) := by decide +kernel
theorem dX3_shortestFrom_67 : decode cX3_shortestFrom 67 = .ok (.goto (-61), 3) := by decide +kernel
theorem dX3_shortestFrom_70 : decode cX3_shortestFrom 70 = .ok (.iload_n 2, 1) := by decide +kernel
theorem dX3_shortestFrom_71 : decode cX3_shortestFrom 71 = .ok (.ireturn, 1) := by decide +kernel
set_option maxRecDepth 20000 in
theorem ggX3_lowestBehind_X4_at : GoodIn wsX3_lowestBehind wsX4_at := goodIn_r _ [4] (by decide +kernel) (by decide +kernel)
set_option maxRecDepth 20000 in
theorem gX3_lowestBehind_X4_at_n28 : GoodIn wsX3_lowestBehind (wsX4_at) := ggX3_lowestBehind_X4_at
set_option maxRecDepth 20000 in
theorem ggX3_lowestBehind_X3_owedBetween : GoodIn wsX3_lowestBehind wsX3_owedBetween := goodIn_r _ [9, 10, 11, 12, 13, 14, 15] (by decide +kernel) (by decide +kernel)
set_option maxRecDepth 20000 in
theorem gX3_lowestBehind_X3_owedBetween : GoodIn wsX3_lowestBehind (wsV RX3 39 RX3 yX3_owedBetween wsX3_owedBetween) := goodIn_app (goodIn_of _ (by decide +kernel)) ggX3_lowestBehind_X3_owedBetween
theorem dX3_lowestBehind_0 : decode cX3_lowestBehind 0 = .ok (.iconst 0, 1) := by decide +kernel
theorem dX3_lowestBehind_1 : decode cX3_lowestBehind 1 = .ok (.istore_n 3, 1) := by decide +kernel
theorem dX3_lowestBehind_2 : decode cX3_lowestBehind 2 = .ok (.iload_n 3, 1) := by decide +kernel
theorem dX3_lowestBehind_3 : decode cX3_lowestBehind 3 = .ok (.bipush 8, 2) := by decide +kernel
theorem dX3_lowestBehind_5 : decode cX3_lowestBehind 5 = .ok (.if_icmp .ge 32, 3) := by decide +kernel
theorem dX3_lowestBehind_8 : decode cX3_lowestBehind 8 = .ok (.aload_n 0, 1) := by decide +kernel
theorem dX3_lowestBehind_9 : decode cX3_lowestBehind 9 = .ok (.getfield 15, 3) := by decide +kernel
theorem dX3_lowestBehind_12 : decode cX3_lowestBehind 12 = .ok (.iload_n 3, 1) := by decide +kernel
theorem dX3_lowestBehind_13 : decode cX3_lowestBehind 13 = .ok (.invokestatic 28, 3) := by decide +kernel
theorem dX3_lowestBehind_16 : decode cX3_lowestBehind 16 = .ok (.iload_n 2, 1) := by decide +kernel
theorem dX3_lowestBehind_17 : decode cX3_lowestBehind 17 = .ok (.if_icmp .ne 14, 3) := by decide +kernel
theorem dX3_lowestBehind_20 : decode cX3_lowestBehind 20 = .ok (.aload_n 0, 1) := by decide +kernel
theorem dX3_lowestBehind_21 : decode cX3_lowestBehind 21 = .ok (.iload_n 1, 1) := by decide +kernel
theorem dX3_lowestBehind_22 : decode cX3_lowestBehind 22 = .ok (.iload_n 3, 1) := by decide +kernel
theorem dX3_lowestBehind_23 : decode cX3_lowestBehind 23 = .ok (.invokevirtual 39, 3) := by decide +kernel
theorem dX3_lowestBehind_26 : decode cX3_lowestBehind 26 = .ok (.ifCond .le 5, 3) := by decide +kernel
theorem dX3_lowestBehind_29 : decode cX3_lowestBehind 29 = .ok (.iload_n 3, 1) := by decide +kernel
theorem dX3_lowestBehind_30 : decode cX3_lowestBehind 30 = .ok (.ireturn, 1) := by decide +kernel
theorem dX3_lowestBehind_31 : decode cX3_lowestBehind 31 = .ok (.iinc 3 1, 3) := by decide +kernel
theorem dX3_lowestBehind_34 : decode cX3_lowestBehind 34 = .ok (.goto (-32), 3) := by decide +kernel
theorem dX3_lowestBehind_37 : decode cX3_lowestBehind 37 = .ok (.iconst (-1), 1) := by decide +kernel
theorem dX3_lowestBehind_38 : decode cX3_lowestBehind 38 = .ok (.ireturn, 1) := by decide +kernel
set_option maxRecDepth 20000 in
theorem ggX3_pupilBehind_X4_at : GoodIn wsX3_pupilBehind wsX4_at := goodIn_r _ [5] (by decide +kernel) (by decide +kernel)
set_option maxRecDepth 20000 in
theorem gX3_pupilBehind_X4_at_n28 : GoodIn wsX3_pupilBehind (wsX4_at) := ggX3_pupilBehind_X4_at
theorem dX3_pupilBehind_0 : decode cX3_pupilBehind 0 = .ok (.aload_n 0, 1) := by decide +kernel
theorem dX3_pupilBehind_1 : decode cX3_pupilBehind 1 = .ok (.getfield 21, 3) := by decide +kernel
theorem dX3_pupilBehind_4 : decode cX3_pupilBehind 4 = .ok (.iload_n 1, 1) := by decide +kernel
theorem dX3_pupilBehind_5 : decode cX3_pupilBehind 5 = .ok (.iconst 1, 1) := by decide +kernel
theorem dX3_pupilBehind_6 : decode cX3_pupilBehind 6 = .ok (.iadd, 1) := by decide +kernel
theorem dX3_pupilBehind_7 : decode cX3_pupilBehind 7 = .ok (.aload_n 0, 1) := by decide +kernel
theorem dX3_pupilBehind_8 : decode cX3_pupilBehind 8 = .ok (.getfield 24, 3) := by decide +kernel
theorem dX3_pupilBehind_11 : decode cX3_pupilBehind 11 = .ok (.if_icmp .ge 9, 3) := by decide +kernel
theorem dX3_pupilBehind_14 : decode cX3_pupilBehind 14 = .ok (.iload_n 1, 1) := by decide +kernel
theorem dX3_pupilBehind_15 : decode cX3_pupilBehind 15 = .ok (.iconst 1, 1) := by decide +kernel
theorem dX3_pupilBehind_16 : decode cX3_pupilBehind 16 = .ok (.iadd, 1) := by decide +kernel
theorem dX3_pupilBehind_17 : decode cX3_pupilBehind 17 = .ok (.goto 4, 3) := by decide +kernel
theorem dX3_pupilBehind_20 : decode cX3_pupilBehind 20 = .ok (.iconst 0, 1) := by decide +kernel
theorem dX3_pupilBehind_21 : decode cX3_pupilBehind 21 = .ok (.invokestatic 28, 3) := by decide +kernel
theorem dX3_pupilBehind_24 : decode cX3_pupilBehind 24 = .ok (.ireturn, 1) := by decide +kernel
set_option maxRecDepth 20000 in
theorem ggX4_init_X0_init : GoodIn wsX4_init wsX0_init := goodIn_r _ [23, 24, 2, 3, 25, 26, 27, 28, 29, 30, 31, 32, 33, 34, 35, 36, 37, 38, 39, 40, 41, 42, 43, 65, 66, 67, 68, 69, 70, 71, 72, 73, 74, 75, 76, 77] (by decide +kernel) (by decide +kernel)
set_option maxRecDepth 20000 in
theorem gX4_init_X0_init : GoodIn wsX4_init (wsX0_init) := ggX4_init_X0_init
set_option maxRecDepth 20000 in
theorem ggX4_init_X1_init : GoodIn wsX4_init wsX1_init := goodIn_r _ [46, 47, 2, 3, 48, 49, 5, 6, 50, 22, 23, 24, 25, 26, 27, 28, 29, 30, 31, 32, 33, 34, 35, 36, 37, 38, 39, 40, 41, 42, 43, 83, 84, 65, 66, 67, 68, 69, 70, 71, 72, 73, 74, 75, 76, 77] (by decide +kernel) (by decide +kernel)
set_option maxRecDepth 20000 in
theorem gX4_init_X1_init : GoodIn wsX4_init (wsX1_init) := ggX4_init_X1_init
set_option maxRecDepth 20000 in
theorem ggX4_init_X3_init : GoodIn wsX4_init wsX3_init := goodIn_r _ [53, 54, 2, 3, 25, 55, 56, 57, 58, 85, 86, 87, 88, 89] (by decide +kernel) (by decide +kernel)
set_option maxRecDepth 20000 in
theorem gX4_init_X3_init : GoodIn wsX4_init (wsX3_init) := ggX4_init_X3_init
set_option maxRecDepth 20000 in
theorem ggX4_init_X2_init : GoodIn wsX4_init wsX2_init := goodIn_r _ [61, 62, 2, 3, 25, 63, 64, 90, 91, 92, 93, 94, 95, 96, 97] (by decide +kernel) (by decide +kernel)
set_option maxRecDepth 20000 in
theorem gX4_init_X2_init : GoodIn wsX4_init (wsX2_init) := ggX4_init_X2_init
theorem dX4_init_0 : decode cX4_init 0 = .ok (.aload_n 0, 1) := by decide +kernel
theorem dX4_init_1 : decode cX4_init 1 = .ok (.invokespecial 1, 3) := by decide +kernel
theorem dX4_init_4 : decode cX4_init 4 = .ok (.aload_n 0, 1) := by decide +kernel
theorem dX4_init_5 : decode cX4_init 5 = .ok (.new 7, 3) := by decide +kernel
theorem dX4_init_8 : decode cX4_init 8 = .ok (.dup, 1) := by decide +kernel
theorem dX4_init_9 : decode cX4_init 9 = .ok (.invokespecial 9, 3) := by decide +kernel
theorem dX4_init_12 : decode cX4_init 12 = .ok (.putfield 10, 3) := by decide +kernel
theorem dX4_init_15 : decode cX4_init 15 = .ok (.aload_n 0, 1) := by decide +kernel
theorem dX4_init_16 : decode cX4_init 16 = .ok (.new 7, 3) := by decide +kernel
theorem dX4_init_19 : decode cX4_init 19 = .ok (.dup, 1) := by decide +kernel
theorem dX4_init_20 : decode cX4_init 20 = .ok (.invokespecial 9, 3) := by decide +kernel
theorem dX4_init_23 : decode cX4_init 23 = .ok (.putfield 16, 3) := by decide +kernel
theorem dX4_init_26 : decode cX4_init 26 = .ok (.aload_n 0, 1) := by decide +kernel
theorem dX4_init_27 : decode cX4_init 27 = .ok (.new 19, 3) := by decide +kernel
theorem dX4_init_30 : decode cX4_init 30 = .ok (.dup, 1) := by decide +kernel
theorem dX4_init_31 : decode cX4_init 31 = .ok (.invokespecial 21, 3) := by decide +kernel
theorem dX4_init_34 : decode cX4_init 34 = .ok (.putfield 22, 3) := by decide +kernel
theorem dX4_init_37 : decode cX4_init 37 = .ok (.aload_n 0, 1) := by decide +kernel
theorem dX4_init_38 : decode cX4_init 38 = .ok (.new 26, 3) := by decide +kernel
theorem dX4_init_41 : decode cX4_init 41 = .ok (.dup, 1) := by decide +kernel
theorem dX4_init_42 : decode cX4_init 42 = .ok (.invokespecial 28, 3) := by decide +kernel
theorem dX4_init_45 : decode cX4_init 45 = .ok (.putfield 29, 3) := by decide +kernel
theorem dX4_init_48 : decode cX4_init 48 = .ok (.aload_n 0, 1) := by decide +kernel
theorem dX4_init_49 : decode cX4_init 49 = .ok (.new 33, 3) := by decide +kernel
theorem dX4_init_52 : decode cX4_init 52 = .ok (.dup, 1) := by decide +kernel
theorem dX4_init_53 : decode cX4_init 53 = .ok (.invokespecial 35, 3) := by decide +kernel
theorem dX4_init_56 : decode cX4_init 56 = .ok (.putfield 36, 3) := by decide +kernel
theorem dX4_init_59 : decode cX4_init 59 = .ok (.return_, 1) := by decide +kernel
set_option maxRecDepth 20000 in
theorem ggX4_pupil_X4_freshTrial : GoodIn wsX4_pupil wsX4_freshTrial := goodIn_r _ [5, 6, 7, 8, 9, 10, 11, 12, 13, 14, 15, 16, 17, 18, 19, 20, 21, 22, 23, 24, 25, 26, 4, 27, 28, 29, 30, 31, 32, 33, 34, 35, 64, 65, 66, 67, 68, 69, 70, 71, 72, 73, 74, 75, 76, 77, 78, 79, 80, 81] (by decide +kernel) (by decide +kernel)
set_option maxRecDepth 20000 in
theorem gX4_pupil_X4_freshTrial : GoodIn wsX4_pupil (wsV RX4 40 RX4 yX4_freshTrial wsX4_freshTrial) := goodIn_app (goodIn_of _ (by decide +kernel)) ggX4_pupil_X4_freshTrial
set_option maxRecDepth 20000 in
theorem ggX4_pupil_X0_addPupil : GoodIn wsX4_pupil wsX0_addPupil := goodIn_r _ [39, 40, 13, 41, 42, 43, 11, 44, 45, 4, 46, 69, 70, 71, 72, 73, 74, 75, 76, 77, 78, 79, 80, 81] (by decide +kernel) (by decide +kernel)
set_option maxRecDepth 20000 in
theorem gX4_pupil_X0_addPupil : GoodIn wsX4_pupil (wsV RX4 44 RX0 yX0_addPupil wsX0_addPupil) := goodIn_app (goodIn_of _ (by decide +kernel)) ggX4_pupil_X0_addPupil
set_option maxRecDepth 20000 in
theorem ggX4_pupil_X4_settled : GoodIn wsX4_pupil wsX4_settled := goodIn_r _ [50, 51, 7, 6, 52, 53, 54, 55, 56, 57, 58, 59, 60, 61, 62, 63, 9, 10, 11, 12, 13, 14, 15, 16, 17, 18, 19, 20, 21, 22, 23, 24, 25, 26, 4, 27, 28, 29, 30, 31, 32, 33, 34, 35, 8, 64, 65, 66, 67, 68, 82, 83, 69, 70, 71, 72, 73, 74, 75, 76, 77, 78, 79, 80, 81] (by decide +kernel) (by decide +kernel)
set_option maxRecDepth 20000 in
theorem gX4_pupil_X4_settled : GoodIn wsX4_pupil (wsV RX4 48 RX4 yX4_settled wsX4_settled) := goodIn_app (goodIn_of _ (by decide +kernel)) ggX4_pupil_X4_settled
theorem dX4_pupil_0 : decode cX4_pupil 0 = .ok (.aload_n 0, 1) := by decide +kernel
theorem dX4_pupil_1 : decode cX4_pupil 1 = .ok (.aload_n 0, 1) := by decide +kernel
theorem dX4_pupil_2 : decode cX4_pupil 2 = .ok (.invokevirtual 40, 3) := by decide +kernel
theorem dX4_pupil_5 : decode cX4_pupil 5 = .ok (.invokevirtual 44, 3) := by decide +kernel
theorem dX4_pupil_8 : decode cX4_pupil 8 = .ok (.invokevirtual 48, 3) := by decide +kernel
theorem dX4_pupil_11 : decode cX4_pupil 11 = .ok (.ireturn, 1) := by decide +kernel
set_option maxRecDepth 20000 in
theorem ggX4_lend_X4_freshTrial : GoodIn wsX4_lend wsX4_freshTrial := goodIn_r _ [5, 6, 7, 8, 9, 10, 11, 12, 13, 14, 15, 16, 17, 18, 19, 20, 21, 22, 23, 24, 25, 26, 4, 27, 28, 29, 30, 31, 32, 33, 34, 35, 102, 103, 104, 105, 106, 107, 108, 109, 110, 111, 112, 113, 114, 115, 116, 117, 118, 119] (by decide +kernel) (by decide +kernel)
set_option maxRecDepth 20000 in
theorem gX4_lend_X4_freshTrial : GoodIn wsX4_lend (wsV RX4 40 RX4 yX4_freshTrial wsX4_freshTrial) := goodIn_app (goodIn_of _ (by decide +kernel)) ggX4_lend_X4_freshTrial
set_option maxRecDepth 20000 in
theorem ggX4_lend_X0_lendFavours : GoodIn wsX4_lend wsX0_lendFavours := goodIn_r _ [39, 40, 41, 42, 14, 13, 43, 44, 45, 11, 46, 47, 48, 49, 50, 51, 52, 53, 54, 55, 4, 56, 57, 58, 59, 60, 61, 62, 16, 63, 64, 65, 66, 23, 67, 68, 69, 70, 20, 21, 22, 71, 72, 73, 74, 75, 76, 17, 77, 78, 79, 80, 24, 25, 81, 82, 83, 84, 107, 108, 109, 110, 111, 112, 113, 114, 115, 116, 117, 118, 119] (by decide +kernel) (by decide +kernel)
set_option maxRecDepth 20000 in
theorem gX4_lend_X0_lendFavours : GoodIn wsX4_lend (wsV RX4 52 RX0 yX0_lendFavours wsX0_lendFavours) := goodIn_app (goodIn_of _ (by decide +kernel)) ggX4_lend_X0_lendFavours
set_option maxRecDepth 20000 in
theorem ggX4_lend_X4_settled : GoodIn wsX4_lend wsX4_settled := goodIn_r _ [88, 89, 7, 6, 90, 91, 92, 93, 94, 95, 96, 97, 98, 99, 100, 101, 9, 10, 11, 12, 13, 14, 15, 16, 17, 18, 19, 20, 21, 22, 23, 24, 25, 26, 4, 27, 28, 29, 30, 31, 32, 33, 34, 35, 8, 102, 103, 104, 105, 106, 120, 121, 107, 108, 109, 110, 111, 112, 113, 114, 115, 116, 117, 118, 119] (by decide +kernel) (by decide +kernel)
set_option maxRecDepth 20000 in
theorem gX4_lend_X4_settled : GoodIn wsX4_lend (wsV RX4 48 RX4 yX4_settled wsX4_settled) := goodIn_app (goodIn_of _ (by decide +kernel)) ggX4_lend_X4_settled
theorem dX4_lend_0 : decode cX4_lend 0 = .ok (.aload_n 0, 1) := by decide +kernel
theorem dX4_lend_1 : decode cX4_lend 1 = .ok (.aload_n 0, 1) := by decide +kernel
theorem dX4_lend_2 : decode cX4_lend 2 = .ok (.invokevirtual 40, 3) := by decide +kernel
theorem dX4_lend_5 : decode cX4_lend 5 = .ok (.iload_n 1, 1) := by decide +kernel
theorem dX4_lend_6 : decode cX4_lend 6 = .ok (.iload_n 2, 1) := by decide +kernel
theorem dX4_lend_7 : decode cX4_lend 7 = .ok (.iload_n 3, 1) := by decide +kernel
theorem dX4_lend_8 : decode cX4_lend 8 = .ok (.iload 4, 2) := by decide +kernel
theorem dX4_lend_10 : decode cX4_lend 10 = .ok (.invokevirtual 52, 3) := by decide +kernel
theorem dX4_lend_13 : decode cX4_lend 13 = .ok (.invokevirtual 48, 3) := by decide +kernel
theorem dX4_lend_16 : decode cX4_lend 16 = .ok (.ireturn, 1) := by decide +kernel
set_option maxRecDepth 20000 in
theorem ggX4_fulfil_X4_freshTrial : GoodIn wsX4_fulfil wsX4_freshTrial := goodIn_r _ [5, 6, 7, 8, 9, 10, 11, 12, 13, 14, 15, 16, 17, 18, 19, 20, 21, 22, 23, 24, 25, 26, 4, 27, 28, 29, 30, 31, 32, 33, 34, 35, 102, 103, 104, 105, 106, 107, 108, 109, 110, 111, 112, 113, 114, 115, 116, 117, 118, 119] (by decide +kernel) (by decide +kernel)
set_option maxRecDepth 20000 in
theorem gX4_fulfil_X4_freshTrial : GoodIn wsX4_fulfil (wsV RX4 40 RX4 yX4_freshTrial wsX4_freshTrial) := goodIn_app (goodIn_of _ (by decide +kernel)) ggX4_fulfil_X4_freshTrial
set_option maxRecDepth 20000 in
theorem ggX4_fulfil_X0_fulfilFavours : GoodIn wsX4_fulfil wsX0_fulfilFavours := goodIn_r _ [39, 40, 41, 14, 15, 13, 42, 43, 44, 11, 45, 46, 47, 48, 49, 50, 51, 52, 53, 54, 4, 55, 56, 57, 58, 59, 60, 61, 23, 62, 63, 64, 65, 20, 21, 22, 66, 67, 68, 69, 70, 71, 72, 29, 30, 31, 73, 74, 75, 76, 24, 77, 78, 79, 80, 81, 82, 25, 83, 84, 107, 108, 109, 110, 111, 112, 113, 114, 115, 116, 117, 118, 119] (by decide +kernel) (by decide +kernel)
set_option maxRecDepth 20000 in
theorem gX4_fulfil_X0_fulfilFavours : GoodIn wsX4_fulfil (wsV RX4 56 RX0 yX0_fulfilFavours wsX0_fulfilFavours) := goodIn_app (goodIn_of _ (by decide +kernel)) ggX4_fulfil_X0_fulfilFavours
set_option maxRecDepth 20000 in
theorem ggX4_fulfil_X4_settled : GoodIn wsX4_fulfil wsX4_settled := goodIn_r _ [88, 89, 7, 6, 90, 91, 92, 93, 94, 95, 96, 97, 98, 99, 100, 101, 9, 10, 11, 12, 13, 14, 15, 16, 17, 18, 19, 20, 21, 22, 23, 24, 25, 26, 4, 27, 28, 29, 30, 31, 32, 33, 34, 35, 8, 102, 103, 104, 105, 106, 120, 121, 107, 108, 109, 110, 111, 112, 113, 114, 115, 116, 117, 118, 119] (by decide +kernel) (by decide +kernel)
set_option maxRecDepth 20000 in
theorem gX4_fulfil_X4_settled : GoodIn wsX4_fulfil (wsV RX4 48 RX4 yX4_settled wsX4_settled) := goodIn_app (goodIn_of _ (by decide +kernel)) ggX4_fulfil_X4_settled
theorem dX4_fulfil_0 : decode cX4_fulfil 0 = .ok (.aload_n 0, 1) := by decide +kernel
theorem dX4_fulfil_1 : decode cX4_fulfil 1 = .ok (.aload_n 0, 1) := by decide +kernel
theorem dX4_fulfil_2 : decode cX4_fulfil 2 = .ok (.invokevirtual 40, 3) := by decide +kernel
theorem dX4_fulfil_5 : decode cX4_fulfil 5 = .ok (.iload_n 1, 1) := by decide +kernel
theorem dX4_fulfil_6 : decode cX4_fulfil 6 = .ok (.iload_n 2, 1) := by decide +kernel
theorem dX4_fulfil_7 : decode cX4_fulfil 7 = .ok (.iload_n 3, 1) := by decide +kernel
theorem dX4_fulfil_8 : decode cX4_fulfil 8 = .ok (.iload 4, 2) := by decide +kernel
theorem dX4_fulfil_10 : decode cX4_fulfil 10 = .ok (.invokevirtual 56, 3) := by decide +kernel
theorem dX4_fulfil_13 : decode cX4_fulfil 13 = .ok (.invokevirtual 48, 3) := by decide +kernel
theorem dX4_fulfil_16 : decode cX4_fulfil 16 = .ok (.ireturn, 1) := by decide +kernel
set_option maxRecDepth 20000 in
theorem ggX4_guarantee_X4_freshTrial : GoodIn wsX4_guarantee wsX4_freshTrial := goodIn_r _ [5, 6, 7, 8, 9, 10, 11, 12, 13, 14, 15, 16, 17, 18, 19, 20, 21, 22, 23, 24, 25, 26, 4, 27, 28, 29, 30, 31, 32, 33, 34, 35, 74, 75, 76, 77, 78, 79, 80, 81, 82, 83, 84, 85, 86, 87, 88, 89, 90, 91] (by decide +kernel) (by decide +kernel)
set_option maxRecDepth 20000 in
theorem gX4_guarantee_X4_freshTrial : GoodIn wsX4_guarantee (wsV RX4 40 RX4 yX4_freshTrial wsX4_freshTrial) := goodIn_app (goodIn_of _ (by decide +kernel)) ggX4_guarantee_X4_freshTrial
set_option maxRecDepth 20000 in
theorem ggX4_guarantee_X0_giveGuarantor : GoodIn wsX4_guarantee wsX0_giveGuarantor := goodIn_r _ [39, 40, 17, 41, 42, 43, 11, 44, 45, 46, 47, 48, 13, 49, 50, 51, 52, 53, 4, 54, 55, 56, 79, 80, 81, 82, 83, 84, 85, 86, 87, 88, 89, 90, 91] (by decide +kernel) (by decide +kernel)
set_option maxRecDepth 20000 in
theorem gX4_guarantee_X0_giveGuarantor : GoodIn wsX4_guarantee (wsV RX4 59 RX0 yX0_giveGuarantor wsX0_giveGuarantor) := goodIn_app (goodIn_of _ (by decide +kernel)) ggX4_guarantee_X0_giveGuarantor
set_option maxRecDepth 20000 in
theorem ggX4_guarantee_X4_settled : GoodIn wsX4_guarantee wsX4_settled := goodIn_r _ [60, 61, 7, 6, 62, 63, 64, 65, 66, 67, 68, 69, 70, 71, 72, 73, 9, 10, 11, 12, 13, 14, 15, 16, 17, 18, 19, 20, 21, 22, 23, 24, 25, 26, 4, 27, 28, 29, 30, 31, 32, 33, 34, 35, 8, 74, 75, 76, 77, 78, 92, 93, 79, 80, 81, 82, 83, 84, 85, 86, 87, 88, 89, 90, 91] (by decide +kernel) (by decide +kernel)
set_option maxRecDepth 20000 in
theorem gX4_guarantee_X4_settled : GoodIn wsX4_guarantee (wsV RX4 48 RX4 yX4_settled wsX4_settled) := goodIn_app (goodIn_of _ (by decide +kernel)) ggX4_guarantee_X4_settled
theorem dX4_guarantee_0 : decode cX4_guarantee 0 = .ok (.aload_n 0, 1) := by decide +kernel
theorem dX4_guarantee_1 : decode cX4_guarantee 1 = .ok (.aload_n 0, 1) := by decide +kernel
theorem dX4_guarantee_2 : decode cX4_guarantee 2 = .ok (.invokevirtual 40, 3) := by decide +kernel
theorem dX4_guarantee_5 : decode cX4_guarantee 5 = .ok (.iload_n 1, 1) := by decide +kernel
theorem dX4_guarantee_6 : decode cX4_guarantee 6 = .ok (.iload_n 2, 1) := by decide +kernel
theorem dX4_guarantee_7 : decode cX4_guarantee 7 = .ok (.invokevirtual 59, 3) := by decide +kernel
theorem dX4_guarantee_10 : decode cX4_guarantee 10 = .ok (.invokevirtual 48, 3) := by decide +kernel
theorem dX4_guarantee_13 : decode cX4_guarantee 13 = .ok (.ireturn, 1) := by decide +kernel
set_option maxRecDepth 20000 in
theorem ggX4_weeks_X4_freshTrial : GoodIn wsX4_weeks wsX4_freshTrial := goodIn_r _ [5, 6, 7, 8, 9, 10, 11, 12, 13, 14, 15, 16, 17, 18, 19, 20, 21, 22, 23, 24, 25, 26, 4, 27, 28, 29, 30, 31, 32, 33, 34, 35, 97, 98, 99, 100, 101, 102, 103, 104, 105, 106, 107, 108, 109, 110, 111, 112, 113, 114] (by decide +kernel) (by decide +kernel)
set_option maxRecDepth 20000 in
theorem gX4_weeks_X4_freshTrial : GoodIn wsX4_weeks (wsV RX4 40 RX4 yX4_freshTrial wsX4_freshTrial) := goodIn_app (goodIn_of _ (by decide +kernel)) ggX4_weeks_X4_freshTrial
set_option maxRecDepth 20000 in
theorem ggX4_weeks_X0_endWeeks : GoodIn wsX4_weeks wsX0_endWeeks := goodIn_r _ [39, 40, 41, 42, 43, 44, 11, 45, 13, 46, 47, 48, 49, 24, 50, 4, 51, 52, 53, 54, 55, 56, 57, 58, 59, 22, 60, 61, 62, 63, 64, 65, 20, 21, 25, 23, 14, 18, 66, 67, 68, 69, 17, 70, 71, 72, 73, 74, 75, 16, 76, 77, 78, 79, 102, 103, 104, 105, 106, 107, 108, 109, 110, 111, 112, 113, 114] (by decide +kernel) (by decide +kernel)
set_option maxRecDepth 20000 in
theorem gX4_weeks_X0_endWeeks : GoodIn wsX4_weeks (wsV RX4 63 RX0 yX0_endWeeks wsX0_endWeeks) := goodIn_app (goodIn_of _ (by decide +kernel)) ggX4_weeks_X0_endWeeks
set_option maxRecDepth 20000 in
theorem ggX4_weeks_X4_settled : GoodIn wsX4_weeks wsX4_settled := goodIn_r _ [83, 84, 7, 6, 85, 86, 87, 88, 89, 90, 91, 92, 93, 94, 95, 96, 9, 10, 11, 12, 13, 14, 15, 16, 17, 18, 19, 20, 21, 22, 23, 24, 25, 26, 4, 27, 28, 29, 30, 31, 32, 33, 34, 35, 8, 97, 98, 99, 100, 101, 115, 116, 102, 103, 104, 105, 106, 107, 108, 109, 110, 111, 112, 113, 114] (by decide +kernel) (by decide +kernel)
set_option maxRecDepth 20000 in
theorem gX4_weeks_X4_settled : GoodIn wsX4_weeks (wsV RX4 48 RX4 yX4_settled wsX4_settled) := goodIn_app (goodIn_of _ (by decide +kernel)) ggX4_weeks_X4_settled
theorem dX4_weeks_0 : decode cX4_weeks 0 = .ok (.aload_n 0, 1) := by decide +kernel
theorem dX4_weeks_1 : decode cX4_weeks 1 = .ok (.aload_n 0, 1) := by decide +kernel
theorem dX4_weeks_2 : decode cX4_weeks 2 = .ok (.invokevirtual 40, 3) := by decide +kernel
theorem dX4_weeks_5 : decode cX4_weeks 5 = .ok (.iload_n 1, 1) := by decide +kernel
theorem dX4_weeks_6 : decode cX4_weeks 6 = .ok (.invokevirtual 63, 3) := by decide +kernel
theorem dX4_weeks_9 : decode cX4_weeks 9 = .ok (.invokevirtual 48, 3) := by decide +kernel
theorem dX4_weeks_12 : decode cX4_weeks 12 = .ok (.ireturn, 1) := by decide +kernel
set_option maxRecDepth 20000 in
theorem ggX4_holiday_X4_freshTrial : GoodIn wsX4_holiday wsX4_freshTrial := goodIn_r _ [5, 6, 7, 8, 9, 10, 11, 12, 13, 14, 15, 16, 17, 18, 19, 20, 21, 22, 23, 24, 25, 26, 4, 27, 28, 29, 30, 31, 32, 33, 34, 35, 63, 64, 65, 66, 67, 68, 69, 70, 71, 72, 73, 74, 75, 76, 77, 78, 79, 80] (by decide +kernel) (by decide +kernel)
set_option maxRecDepth 20000 in
theorem gX4_holiday_X4_freshTrial : GoodIn wsX4_holiday (wsV RX4 40 RX4 yX4_freshTrial wsX4_freshTrial) := goodIn_app (goodIn_of _ (by decide +kernel)) ggX4_holiday_X4_freshTrial
set_option maxRecDepth 20000 in
theorem ggX4_holiday_X0_turnHolidays : GoodIn wsX4_holiday wsX0_turnHolidays := goodIn_r _ [39, 13, 40, 41, 42, 11, 43, 44, 4, 45, 68, 69, 70, 71, 72, 73, 74, 75, 76, 77, 78, 79, 80] (by decide +kernel) (by decide +kernel)
set_option maxRecDepth 20000 in
theorem gX4_holiday_X0_turnHolidays : GoodIn wsX4_holiday (wsV RX4 66 RX0 yX0_turnHolidays wsX0_turnHolidays) := goodIn_app (goodIn_of _ (by decide +kernel)) ggX4_holiday_X0_turnHolidays
set_option maxRecDepth 20000 in
theorem ggX4_holiday_X4_settled : GoodIn wsX4_holiday wsX4_settled := goodIn_r _ [49, 50, 7, 6, 51, 52, 53, 54, 55, 56, 57, 58, 59, 60, 61, 62, 9, 10, 11, 12, 13, 14, 15, 16, 17, 18, 19, 20, 21, 22, 23, 24, 25, 26, 4, 27, 28, 29, 30, 31, 32, 33, 34, 35, 8, 63, 64, 65, 66, 67, 81, 82, 68, 69, 70, 71, 72, 73, 74, 75, 76, 77, 78, 79, 80] (by decide +kernel) (by decide +kernel)
set_option maxRecDepth 20000 in
theorem gX4_holiday_X4_settled : GoodIn wsX4_holiday (wsV RX4 48 RX4 yX4_settled wsX4_settled) := goodIn_app (goodIn_of _ (by decide +kernel)) ggX4_holiday_X4_settled
theorem dX4_holiday_0 : decode cX4_holiday 0 = .ok (.aload_n 0, 1) := by decide +kernel
theorem dX4_holiday_1 : decode cX4_holiday 1 = .ok (.aload_n 0, 1) := by decide +kernel
theorem dX4_holiday_2 : decode cX4_holiday 2 = .ok (.invokevirtual 40, 3) := by decide +kernel
theorem dX4_holiday_5 : decode cX4_holiday 5 = .ok (.iload_n 1, 1) := by decide +kernel
theorem dX4_holiday_6 : decode cX4_holiday 6 = .ok (.invokevirtual 66, 3) := by decide +kernel
theorem dX4_holiday_9 : decode cX4_holiday 9 = .ok (.invokevirtual 48, 3) := by decide +kernel
theorem dX4_holiday_12 : decode cX4_holiday 12 = .ok (.ireturn, 1) := by decide +kernel
set_option maxRecDepth 20000 in
theorem ggX4_clear_X4_freshTrial : GoodIn wsX4_clear wsX4_freshTrial := goodIn_r _ [6, 7, 8, 9, 10, 11, 12, 13, 14, 15, 16, 17, 18, 19, 20, 21, 22, 23, 24, 25, 26, 27, 5, 28, 29, 30, 31, 32, 33, 34, 35, 36, 141, 142, 143, 144, 145, 146, 147, 148, 149, 150, 151, 152, 153, 154, 155, 156, 157, 158] (by decide +kernel) (by decide +kernel)
set_option maxRecDepth 20000 in
theorem gX4_clear_X4_freshTrial : GoodIn wsX4_clear (wsV RX4 40 RX4 yX4_freshTrial wsX4_freshTrial) := goodIn_app (goodIn_of _ (by decide +kernel)) ggX4_clear_X4_freshTrial
set_option maxRecDepth 20000 in
theorem ggX4_clear_X3_clearKind : GoodIn wsX4_clear wsX3_clearKind := goodIn_r _ [41, 42, 43, 44, 5, 45, 46, 47, 48, 40, 49, 50, 51, 52, 53, 54, 55, 56, 57, 58, 12, 59, 14, 60, 61, 62, 63, 21, 22, 23, 64, 65, 66, 67, 68, 69, 70, 71, 72, 73, 74, 75, 76, 77, 78, 79, 80, 81, 82, 83, 84, 85, 86, 87, 88, 89, 90, 91, 92, 93, 94, 95, 96, 30, 31, 32, 97, 98, 99, 100, 101, 102, 103, 104, 24, 105, 106, 107, 108, 109, 25, 110, 111, 112, 113, 114, 115, 26, 116, 117, 118, 119, 20, 120, 121, 122, 123, 159, 160, 161, 162, 163, 146, 147, 148, 149, 150, 151, 152, 153, 154, 155, 156, 157, 158] (by decide +kernel) (by decide +kernel)
set_option maxRecDepth 20000 in
theorem gX4_clear_X3_clearKind : GoodIn wsX4_clear (wsV RX4 70 RX3 yX3_clearKind wsX3_clearKind) := goodIn_app (goodIn_of _ (by decide +kernel)) ggX4_clear_X3_clearKind
set_option maxRecDepth 20000 in
theorem ggX4_clear_X4_settled : GoodIn wsX4_clear wsX4_settled := goodIn_r _ [127, 128, 8, 7, 129, 130, 131, 132, 133, 134, 135, 136, 137, 138, 139, 140, 10, 11, 12, 13, 14, 15, 16, 17, 18, 19, 20, 21, 22, 23, 24, 25, 26, 27, 5, 28, 29, 30, 31, 32, 33, 34, 35, 36, 9, 141, 142, 143, 144, 145, 164, 165, 146, 147, 148, 149, 150, 151, 152, 153, 154, 155, 156, 157, 158] (by decide +kernel) (by decide +kernel)
set_option maxRecDepth 20000 in
theorem gX4_clear_X4_settled : GoodIn wsX4_clear (wsV RX4 48 RX4 yX4_settled wsX4_settled) := goodIn_app (goodIn_of _ (by decide +kernel)) ggX4_clear_X4_settled
theorem dX4_clear_0 : decode cX4_clear 0 = .ok (.aload_n 0, 1) := by decide +kernel
theorem dX4_clear_1 : decode cX4_clear 1 = .ok (.aload_n 0, 1) := by decide +kernel
theorem dX4_clear_2 : decode cX4_clear 2 = .ok (.getfield 29, 3) := by decide +kernel
theorem dX4_clear_5 : decode cX4_clear 5 = .ok (.aload_n 0, 1) := by decide +kernel
theorem dX4_clear_6 : decode cX4_clear 6 = .ok (.invokevirtual 40, 3) := by decide +kernel
theorem dX4_clear_9 : decode cX4_clear 9 = .ok (.iload_n 1, 1) := by decide +kernel
theorem dX4_clear_10 : decode cX4_clear 10 = .ok (.invokevirtual 70, 3) := by decide +kernel
theorem dX4_clear_13 : decode cX4_clear 13 = .ok (.invokevirtual 48, 3) := by decide +kernel
theorem dX4_clear_16 : decode cX4_clear 16 = .ok (.ireturn, 1) := by decide +kernel
set_option maxRecDepth 20000 in
theorem ggX4_set_X4_freshTrial : GoodIn wsX4_set wsX4_freshTrial := goodIn_r _ [5, 6, 7, 8, 9, 10, 11, 12, 13, 14, 15, 16, 17, 18, 19, 20, 21, 22, 23, 24, 25, 26, 4, 27, 28, 29, 30, 31, 32, 33, 34, 35, 66, 67, 68, 69, 70, 71, 72, 73, 74, 75, 76, 77, 78, 79, 80, 81, 82, 83] (by decide +kernel) (by decide +kernel)
set_option maxRecDepth 20000 in
theorem gX4_set_X4_freshTrial : GoodIn wsX4_set (wsV RX4 40 RX4 yX4_freshTrial wsX4_freshTrial) := goodIn_app (goodIn_of _ (by decide +kernel)) ggX4_set_X4_freshTrial
set_option maxRecDepth 20000 in
theorem ggX4_set_X0_changeSetting : GoodIn wsX4_set wsX0_changeSetting := goodIn_r _ [39, 40, 13, 41, 4, 42, 43, 44, 45, 11, 46, 47, 48, 71, 72, 73, 74, 75, 76, 77, 78, 79, 80, 81, 82, 83] (by decide +kernel) (by decide +kernel)
set_option maxRecDepth 20000 in
theorem gX4_set_X0_changeSetting : GoodIn wsX4_set (wsV RX4 74 RX0 yX0_changeSetting wsX0_changeSetting) := goodIn_app (goodIn_of _ (by decide +kernel)) ggX4_set_X0_changeSetting
set_option maxRecDepth 20000 in
theorem ggX4_set_X4_settled : GoodIn wsX4_set wsX4_settled := goodIn_r _ [52, 53, 7, 6, 54, 55, 56, 57, 58, 59, 60, 61, 62, 63, 64, 65, 9, 10, 11, 12, 13, 14, 15, 16, 17, 18, 19, 20, 21, 22, 23, 24, 25, 26, 4, 27, 28, 29, 30, 31, 32, 33, 34, 35, 8, 66, 67, 68, 69, 70, 84, 85, 71, 72, 73, 74, 75, 76, 77, 78, 79, 80, 81, 82, 83] (by decide +kernel) (by decide +kernel)
set_option maxRecDepth 20000 in
theorem gX4_set_X4_settled : GoodIn wsX4_set (wsV RX4 48 RX4 yX4_settled wsX4_settled) := goodIn_app (goodIn_of _ (by decide +kernel)) ggX4_set_X4_settled
theorem dX4_set_0 : decode cX4_set 0 = .ok (.aload_n 0, 1) := by decide +kernel
theorem dX4_set_1 : decode cX4_set 1 = .ok (.aload_n 0, 1) := by decide +kernel
theorem dX4_set_2 : decode cX4_set 2 = .ok (.invokevirtual 40, 3) := by decide +kernel
theorem dX4_set_5 : decode cX4_set 5 = .ok (.iload_n 1, 1) := by decide +kernel
theorem dX4_set_6 : decode cX4_set 6 = .ok (.iload_n 2, 1) := by decide +kernel
theorem dX4_set_7 : decode cX4_set 7 = .ok (.invokevirtual 74, 3) := by decide +kernel
theorem dX4_set_10 : decode cX4_set 10 = .ok (.invokevirtual 48, 3) := by decide +kernel
theorem dX4_set_13 : decode cX4_set 13 = .ok (.ireturn, 1) := by decide +kernel
set_option maxRecDepth 20000 in
theorem ggX4_pupilOf_X0_isPupil : GoodIn wsX4_pupilOf wsX0_isPupil := goodIn_r _ [7, 8, 9, 10, 6, 11, 12, 52, 53, 54, 55, 56, 57, 58, 59, 60, 61, 62, 63, 64] (by decide +kernel) (by decide +kernel)
set_option maxRecDepth 20000 in
theorem gX4_pupilOf_X0_isPupil : GoodIn wsX4_pupilOf (wsV RX4 77 RX0 yX0_isPupil wsX0_isPupil) := goodIn_app (goodIn_of _ (by decide +kernel)) ggX4_pupilOf_X0_isPupil
set_option maxRecDepth 20000 in
theorem ggX4_pupilOf_X0_tellOfPupil : GoodIn wsX4_pupilOf wsX0_tellOfPupil := goodIn_r _ [16, 17, 18, 19, 20, 21, 22, 23, 24, 25, 6, 26, 27, 8, 9, 10, 11, 12, 28, 29, 30, 31, 32, 33, 34, 35, 36, 37, 38, 39, 40, 41, 42, 43, 44, 45, 46, 52, 53, 54, 55, 56, 57, 58, 59, 60, 61, 62, 63, 64] (by decide +kernel) (by decide +kernel)
set_option maxRecDepth 20000 in
theorem gX4_pupilOf_X0_tellOfPupil : GoodIn wsX4_pupilOf (wsV RX4 82 RX0 yX0_tellOfPupil wsX0_tellOfPupil) := goodIn_app (goodIn_of _ (by decide +kernel)) ggX4_pupilOf_X0_tellOfPupil
theorem dX4_pupilOf_0 : decode cX4_pupilOf 0 = .ok (.aload_n 0, 1) := by decide +kernel
theorem dX4_pupilOf_1 : decode cX4_pupilOf 1 = .ok (.getfield 10, 3) := by decide +kernel
theorem dX4_pupilOf_4 : decode cX4_pupilOf 4 = .ok (.iload_n 1, 1) := by decide +kernel
theorem dX4_pupilOf_5 : decode cX4_pupilOf 5 = .ok (.invokevirtual 77, 3) := by decide +kernel
theorem dX4_pupilOf_8 : decode cX4_pupilOf 8 = .ok (.ifCond .eq 13, 3) := by decide +kernel
theorem dX4_pupilOf_11 : decode cX4_pupilOf 11 = .ok (.iload_n 2, 1) := by decide +kernel
theorem dX4_pupilOf_12 : decode cX4_pupilOf 12 = .ok (.ifCond .lt 9, 3) := by decide +kernel
theorem dX4_pupilOf_15 : decode cX4_pupilOf 15 = .ok (.iload_n 2, 1) := by decide +kernel
theorem dX4_pupilOf_16 : decode cX4_pupilOf 16 = .ok (.bipush 9, 2) := by decide +kernel
theorem dX4_pupilOf_18 : decode cX4_pupilOf 18 = .ok (.if_icmp .lt 6, 3) := by decide +kernel
theorem dX4_pupilOf_21 : decode cX4_pupilOf 21 = .ok (.ldc 81, 2) := by decide +kernel
theorem dX4_pupilOf_23 : decode cX4_pupilOf 23 = .ok (.ireturn, 1) := by decide +kernel
theorem dX4_pupilOf_24 : decode cX4_pupilOf 24 = .ok (.aload_n 0, 1) := by decide +kernel
theorem dX4_pupilOf_25 : decode cX4_pupilOf 25 = .ok (.getfield 10, 3) := by decide +kernel
theorem dX4_pupilOf_28 : decode cX4_pupilOf 28 = .ok (.iload_n 1, 1) := by decide +kernel
theorem dX4_pupilOf_29 : decode cX4_pupilOf 29 = .ok (.iload_n 2, 1) := by decide +kernel
theorem dX4_pupilOf_30 : decode cX4_pupilOf 30 = .ok (.invokevirtual 82, 3) := by decide +kernel
theorem dX4_pupilOf_33 : decode cX4_pupilOf 33 = .ok (.ireturn, 1) := by decide +kernel
set_option maxRecDepth 20000 in
theorem ggX4_owes_X0_isPupil : GoodIn wsX4_owes wsX0_isPupil := goodIn_r _ [7, 8, 9, 10, 6, 11, 12, 36, 37, 38, 39, 40, 41, 42, 43, 44, 45, 46, 47, 48] (by decide +kernel) (by decide +kernel)
set_option maxRecDepth 20000 in
theorem gX4_owes_X0_isPupil : GoodIn wsX4_owes (wsV RX4 77 RX0 yX0_isPupil wsX0_isPupil) := goodIn_app (goodIn_of _ (by decide +kernel)) ggX4_owes_X0_isPupil
set_option maxRecDepth 20000 in
theorem ggX4_owes_X4_isKind : GoodIn wsX4_owes wsX4_isKind := goodIn_r _ [16] (by decide +kernel) (by decide +kernel)
set_option maxRecDepth 20000 in
theorem gX4_owes_X4_isKind : GoodIn wsX4_owes (va_wsS RX4 85 yX4_isKind wsX4_isKind) := goodIn_app (goodIn_of _ (by decide +kernel)) ggX4_owes_X4_isKind
set_option maxRecDepth 20000 in
theorem ggX4_owes_X0_sumOwed : GoodIn wsX4_owes wsX0_sumOwed := goodIn_r _ [20, 21, 8, 9, 10, 6, 11, 12, 22, 23, 24, 25, 26, 27, 28, 29, 15, 30, 36, 37, 38, 39, 40, 41, 42, 43, 44, 45, 46, 47, 48] (by decide +kernel) (by decide +kernel)
set_option maxRecDepth 20000 in
theorem gX4_owes_X0_sumOwed : GoodIn wsX4_owes (wsV RX4 88 RX0 yX0_sumOwed wsX0_sumOwed) := goodIn_app (goodIn_of _ (by decide +kernel)) ggX4_owes_X0_sumOwed
theorem dX4_owes_0 : decode cX4_owes 0 = .ok (.aload_n 0, 1) := by decide +kernel
theorem dX4_owes_1 : decode cX4_owes 1 = .ok (.getfield 10, 3) := by decide +kernel
theorem dX4_owes_4 : decode cX4_owes 4 = .ok (.iload_n 1, 1) := by decide +kernel
theorem dX4_owes_5 : decode cX4_owes 5 = .ok (.invokevirtual 77, 3) := by decide +kernel
theorem dX4_owes_8 : decode cX4_owes 8 = .ok (.ifCond .eq 21, 3) := by decide +kernel
theorem dX4_owes_11 : decode cX4_owes 11 = .ok (.aload_n 0, 1) := by decide +kernel
theorem dX4_owes_12 : decode cX4_owes 12 = .ok (.getfield 10, 3) := by decide +kernel
theorem dX4_owes_15 : decode cX4_owes 15 = .ok (.iload_n 2, 1) := by decide +kernel
theorem dX4_owes_16 : decode cX4_owes 16 = .ok (.invokevirtual 77, 3) := by decide +kernel
theorem dX4_owes_19 : decode cX4_owes 19 = .ok (.ifCond .eq 10, 3) := by decide +kernel
theorem dX4_owes_22 : decode cX4_owes 22 = .ok (.iload_n 3, 1) := by decide +kernel
theorem dX4_owes_23 : decode cX4_owes 23 = .ok (.invokestatic 85, 3) := by decide +kernel
theorem dX4_owes_26 : decode cX4_owes 26 = .ok (.ifCond .ne 6, 3) := by decide +kernel
theorem dX4_owes_29 : decode cX4_owes 29 = .ok (.ldc 81, 2) := by decide +kernel
theorem dX4_owes_31 : decode cX4_owes 31 = .ok (.ireturn, 1) := by decide +kernel
theorem dX4_owes_32 : decode cX4_owes 32 = .ok (.aload_n 0, 1) := by decide +kernel
theorem dX4_owes_33 : decode cX4_owes 33 = .ok (.getfield 10, 3) := by decide +kernel
theorem dX4_owes_36 : decode cX4_owes 36 = .ok (.iload_n 1, 1) := by decide +kernel
theorem dX4_owes_37 : decode cX4_owes 37 = .ok (.iload_n 2, 1) := by decide +kernel
theorem dX4_owes_38 : decode cX4_owes 38 = .ok (.iload_n 3, 1) := by decide +kernel
theorem dX4_owes_39 : decode cX4_owes 39 = .ok (.invokevirtual 88, 3) := by decide +kernel
theorem dX4_owes_42 : decode cX4_owes 42 = .ok (.ireturn, 1) := by decide +kernel
set_option maxRecDepth 20000 in
theorem ggX4_lot_X0_number : GoodIn wsX4_lot wsX0_number := goodIn_r _ [8, 9, 28, 29, 30, 31, 32, 33, 34, 35, 36, 37, 38, 39, 40] (by decide +kernel) (by decide +kernel)
set_option maxRecDepth 20000 in
theorem gX4_lot_X0_number : GoodIn wsX4_lot (wsV RX4 92 RX0 yX0_number wsX0_number) := goodIn_app (goodIn_of _ (by decide +kernel)) ggX4_lot_X0_number
set_option maxRecDepth 20000 in
theorem ggX4_lot_X0_tellOfLot : GoodIn wsX4_lot wsX0_tellOfLot := goodIn_r _ [13, 14, 15, 16, 17, 18, 19, 20, 21, 22, 28, 29, 30, 31, 32, 33, 34, 35, 36, 37, 38, 39, 40] (by decide +kernel) (by decide +kernel)
set_option maxRecDepth 20000 in
theorem gX4_lot_X0_tellOfLot : GoodIn wsX4_lot (wsV RX4 95 RX0 yX0_tellOfLot wsX0_tellOfLot) := goodIn_app (goodIn_of _ (by decide +kernel)) ggX4_lot_X0_tellOfLot
theorem dX4_lot_0 : decode cX4_lot 0 = .ok (.iload_n 1, 1) := by decide +kernel
theorem dX4_lot_1 : decode cX4_lot 1 = .ok (.ifCond .lt 13, 3) := by decide +kernel
theorem dX4_lot_4 : decode cX4_lot 4 = .ok (.iload_n 2, 1) := by decide +kernel
theorem dX4_lot_5 : decode cX4_lot 5 = .ok (.ifCond .lt 9, 3) := by decide +kernel
theorem dX4_lot_8 : decode cX4_lot 8 = .ok (.iload_n 2, 1) := by decide +kernel
theorem dX4_lot_9 : decode cX4_lot 9 = .ok (.bipush 6, 2) := by decide +kernel
theorem dX4_lot_11 : decode cX4_lot 11 = .ok (.if_icmp .lt 6, 3) := by decide +kernel
theorem dX4_lot_14 : decode cX4_lot 14 = .ok (.ldc 81, 2) := by decide +kernel
theorem dX4_lot_16 : decode cX4_lot 16 = .ok (.ireturn, 1) := by decide +kernel
theorem dX4_lot_17 : decode cX4_lot 17 = .ok (.iload_n 1, 1) := by decide +kernel
theorem dX4_lot_18 : decode cX4_lot 18 = .ok (.aload_n 0, 1) := by decide +kernel
theorem dX4_lot_19 : decode cX4_lot 19 = .ok (.getfield 10, 3) := by decide +kernel
theorem dX4_lot_22 : decode cX4_lot 22 = .ok (.iconst 2, 1) := by decide +kernel
theorem dX4_lot_23 : decode cX4_lot 23 = .ok (.invokevirtual 92, 3) := by decide +kernel
theorem dX4_lot_26 : decode cX4_lot 26 = .ok (.if_icmp .ge 15, 3) := by decide +kernel
theorem dX4_lot_29 : decode cX4_lot 29 = .ok (.aload_n 0, 1) := by decide +kernel
theorem dX4_lot_30 : decode cX4_lot 30 = .ok (.getfield 10, 3) := by decide +kernel
theorem dX4_lot_33 : decode cX4_lot 33 = .ok (.iload_n 1, 1) := by decide +kernel
theorem dX4_lot_34 : decode cX4_lot 34 = .ok (.iload_n 2, 1) := by decide +kernel
theorem dX4_lot_35 : decode cX4_lot 35 = .ok (.invokevirtual 95, 3) := by decide +kernel
theorem dX4_lot_38 : decode cX4_lot 38 = .ok (.goto 5, 3) := by decide +kernel
theorem dX4_lot_41 : decode cX4_lot 41 = .ok (.ldc 98, 2) := by decide +kernel
theorem dX4_lot_43 : decode cX4_lot 43 = .ok (.ireturn, 1) := by decide +kernel
set_option maxRecDepth 20000 in
theorem ggX4_why_X0_isPupil : GoodIn wsX4_why wsX0_isPupil := goodIn_r _ [7, 8, 9, 10, 6, 11, 12, 46, 47, 48, 49, 50, 51, 52, 53, 54, 55, 56, 57, 58] (by decide +kernel) (by decide +kernel)
set_option maxRecDepth 20000 in
theorem gX4_why_X0_isPupil : GoodIn wsX4_why (wsV RX4 77 RX0 yX0_isPupil wsX0_isPupil) := goodIn_app (goodIn_of _ (by decide +kernel)) ggX4_why_X0_isPupil
set_option maxRecDepth 20000 in
theorem ggX4_why_X4_isMany : GoodIn wsX4_why wsX4_isMany := goodIn_r _ [16] (by decide +kernel) (by decide +kernel)
set_option maxRecDepth 20000 in
theorem gX4_why_X4_isMany : GoodIn wsX4_why (va_wsS RX4 99 yX4_isMany wsX4_isMany) := goodIn_app (goodIn_of _ (by decide +kernel)) ggX4_why_X4_isMany
set_option maxRecDepth 20000 in
theorem ggX4_why_X0_reasonAgainst : GoodIn wsX4_why wsX0_reasonAgainst := goodIn_r _ [20, 21, 22, 23, 24, 6, 25, 26, 8, 9, 10, 11, 12, 27, 28, 29, 30, 31, 32, 33, 34, 15, 35, 36, 37, 38, 39, 40, 46, 47, 48, 49, 50, 51, 52, 53, 54, 55, 56, 57, 58] (by decide +kernel) (by decide +kernel)
set_option maxRecDepth 20000 in
theorem gX4_why_X0_reasonAgainst : GoodIn wsX4_why (wsV RX4 102 RX0 yX0_reasonAgainst wsX0_reasonAgainst) := goodIn_app (goodIn_of _ (by decide +kernel)) ggX4_why_X0_reasonAgainst
theorem dX4_why_0 : decode cX4_why 0 = .ok (.aload_n 0, 1) := by decide +kernel
theorem dX4_why_1 : decode cX4_why 1 = .ok (.getfield 10, 3) := by decide +kernel
theorem dX4_why_4 : decode cX4_why 4 = .ok (.iload_n 1, 1) := by decide +kernel
theorem dX4_why_5 : decode cX4_why 5 = .ok (.invokevirtual 77, 3) := by decide +kernel
theorem dX4_why_8 : decode cX4_why 8 = .ok (.ifCond .eq 10, 3) := by decide +kernel
theorem dX4_why_11 : decode cX4_why 11 = .ok (.iload_n 2, 1) := by decide +kernel
theorem dX4_why_12 : decode cX4_why 12 = .ok (.invokestatic 99, 3) := by decide +kernel
theorem dX4_why_15 : decode cX4_why 15 = .ok (.ifCond .ne 6, 3) := by decide +kernel
theorem dX4_why_18 : decode cX4_why 18 = .ok (.ldc 81, 2) := by decide +kernel
theorem dX4_why_20 : decode cX4_why 20 = .ok (.ireturn, 1) := by decide +kernel
theorem dX4_why_21 : decode cX4_why 21 = .ok (.aload_n 0, 1) := by decide +kernel
theorem dX4_why_22 : decode cX4_why 22 = .ok (.getfield 10, 3) := by decide +kernel
theorem dX4_why_25 : decode cX4_why 25 = .ok (.iload_n 1, 1) := by decide +kernel
theorem dX4_why_26 : decode cX4_why 26 = .ok (.iload_n 2, 1) := by decide +kernel
theorem dX4_why_27 : decode cX4_why 27 = .ok (.invokevirtual 102, 3) := by decide +kernel
theorem dX4_why_30 : decode cX4_why 30 = .ok (.ireturn, 1) := by decide +kernel
set_option maxRecDepth 20000 in
theorem ggX4_ring_X4_isKind : GoodIn wsX4_ring wsX4_isKind := goodIn_r _ [8] (by decide +kernel) (by decide +kernel)
set_option maxRecDepth 20000 in
theorem gX4_ring_X4_isKind : GoodIn wsX4_ring (va_wsS RX4 85 yX4_isKind wsX4_isKind) := goodIn_app (goodIn_of _ (by decide +kernel)) ggX4_ring_X4_isKind
set_option maxRecDepth 20000 in
theorem ggX4_ring_X3_findNext : GoodIn wsX4_ring wsX3_findNext := goodIn_r _ [13, 14, 15, 16, 17, 18, 12, 19, 20, 21, 22, 23, 24, 25, 26, 27, 28, 29, 30, 31, 32, 33, 34, 7, 35, 36, 37, 38, 39, 40, 41, 42, 43, 44, 45, 46, 47, 48, 49, 50, 51, 52, 53, 54, 55, 56, 57, 58, 59, 60, 61, 72, 73, 74, 75, 76, 77, 78, 79, 80, 81, 82, 83, 84, 85, 86, 87, 88, 89] (by decide +kernel) (by decide +kernel)
set_option maxRecDepth 20000 in
theorem gX4_ring_X3_findNext : GoodIn wsX4_ring (wsV RX4 105 RX3 yX3_findNext wsX3_findNext) := goodIn_app (goodIn_of _ (by decide +kernel)) ggX4_ring_X3_findNext
set_option maxRecDepth 20000 in
theorem ggX4_ring_X3_nextLength : GoodIn wsX4_ring wsX3_nextLength := goodIn_r _ [65, 14, 72, 73, 74, 75, 76] (by decide +kernel) (by decide +kernel)
set_option maxRecDepth 20000 in
theorem gX4_ring_X3_nextLength : GoodIn wsX4_ring (wsV RX4 109 RX3 yX3_nextLength wsX3_nextLength) := goodIn_app (goodIn_of _ (by decide +kernel)) ggX4_ring_X3_nextLength
set_option maxRecDepth 20000 in
theorem ggX4_ring_X3_nextPupil : GoodIn wsX4_ring wsX3_nextPupil := goodIn_r _ [57, 15, 34, 7, 35, 72, 73, 74, 75, 76] (by decide +kernel) (by decide +kernel)
set_option maxRecDepth 20000 in
theorem gX4_ring_X3_nextPupil : GoodIn wsX4_ring (wsV RX4 112 RX3 yX3_nextPupil wsX3_nextPupil) := goodIn_app (goodIn_of _ (by decide +kernel)) ggX4_ring_X3_nextPupil
theorem dX4_ring_0 : decode cX4_ring 0 = .ok (.iload_n 1, 1) := by decide +kernel
theorem dX4_ring_1 : decode cX4_ring 1 = .ok (.invokestatic 85, 3) := by decide +kernel
theorem dX4_ring_4 : decode cX4_ring 4 = .ok (.ifCond .eq 7, 3) := by decide +kernel
theorem dX4_ring_7 : decode cX4_ring 7 = .ok (.iload_n 2, 1) := by decide +kernel
theorem dX4_ring_8 : decode cX4_ring 8 = .ok (.ifCond .ge 6, 3) := by decide +kernel
theorem dX4_ring_11 : decode cX4_ring 11 = .ok (.ldc 81, 2) := by decide +kernel
theorem dX4_ring_13 : decode cX4_ring 13 = .ok (.ireturn, 1) := by decide +kernel
theorem dX4_ring_14 : decode cX4_ring 14 = .ok (.aload_n 0, 1) := by decide +kernel
theorem dX4_ring_15 : decode cX4_ring 15 = .ok (.getfield 29, 3) := by decide +kernel
theorem dX4_ring_18 : decode cX4_ring 18 = .ok (.aload_n 0, 1) := by decide +kernel
theorem dX4_ring_19 : decode cX4_ring 19 = .ok (.getfield 10, 3) := by decide +kernel
theorem dX4_ring_22 : decode cX4_ring 22 = .ok (.iload_n 1, 1) := by decide +kernel
theorem dX4_ring_23 : decode cX4_ring 23 = .ok (.invokevirtual 105, 3) := by decide +kernel
theorem dX4_ring_26 : decode cX4_ring 26 = .ok (.ifCond .eq 14, 3) := by decide +kernel
theorem dX4_ring_29 : decode cX4_ring 29 = .ok (.iload_n 2, 1) := by decide +kernel
theorem dX4_ring_30 : decode cX4_ring 30 = .ok (.aload_n 0, 1) := by decide +kernel
theorem dX4_ring_31 : decode cX4_ring 31 = .ok (.getfield 29, 3) := by decide +kernel
theorem dX4_ring_34 : decode cX4_ring 34 = .ok (.invokevirtual 109, 3) := by decide +kernel
theorem dX4_ring_37 : decode cX4_ring 37 = .ok (.if_icmp .lt 6, 3) := by decide +kernel
theorem dX4_ring_40 : decode cX4_ring 40 = .ok (.ldc 98, 2) := by decide +kernel
theorem dX4_ring_42 : decode cX4_ring 42 = .ok (.ireturn, 1) := by decide +kernel
theorem dX4_ring_43 : decode cX4_ring 43 = .ok (.aload_n 0, 1) := by decide +kernel
theorem dX4_ring_44 : decode cX4_ring 44 = .ok (.getfield 29, 3) := by decide +kernel
theorem dX4_ring_47 : decode cX4_ring 47 = .ok (.iload_n 2, 1) := by decide +kernel
theorem dX4_ring_48 : decode cX4_ring 48 = .ok (.invokevirtual 112, 3) := by decide +kernel
theorem dX4_ring_51 : decode cX4_ring 51 = .ok (.ireturn, 1) := by decide +kernel
set_option maxRecDepth 20000 in
theorem ggX4_amount_X4_isKind : GoodIn wsX4_amount wsX4_isKind := goodIn_r _ [8] (by decide +kernel) (by decide +kernel)
set_option maxRecDepth 20000 in
theorem gX4_amount_X4_isKind : GoodIn wsX4_amount (va_wsS RX4 85 yX4_isKind wsX4_isKind) := goodIn_app (goodIn_of _ (by decide +kernel)) ggX4_amount_X4_isKind
set_option maxRecDepth 20000 in
theorem ggX4_amount_X3_findNext : GoodIn wsX4_amount wsX3_findNext := goodIn_r _ [13, 14, 15, 16, 17, 18, 12, 19, 20, 21, 22, 23, 24, 25, 26, 27, 28, 29, 30, 31, 32, 33, 34, 7, 35, 36, 37, 38, 39, 40, 41, 42, 43, 44, 45, 46, 47, 48, 49, 50, 51, 52, 53, 54, 55, 56, 57, 58, 59, 60, 61, 79, 80, 81, 82, 83, 84, 85, 86, 87, 88, 89, 90, 91, 92, 93, 94, 95, 96] (by decide +kernel) (by decide +kernel)
set_option maxRecDepth 20000 in
theorem gX4_amount_X3_findNext : GoodIn wsX4_amount (wsV RX4 105 RX3 yX3_findNext wsX3_findNext) := goodIn_app (goodIn_of _ (by decide +kernel)) ggX4_amount_X3_findNext
set_option maxRecDepth 20000 in
theorem ggX4_amount_X3_nextAmount : GoodIn wsX4_amount wsX3_nextAmount := goodIn_r _ [65, 14, 66, 67, 68, 69, 54, 55, 56, 12, 57, 15, 34, 7, 35, 70, 71, 72, 73, 46, 47, 48, 49, 20, 79, 80, 81, 82, 83] (by decide +kernel) (by decide +kernel)
set_option maxRecDepth 20000 in
theorem gX4_amount_X3_nextAmount : GoodIn wsX4_amount (wsV RX4 115 RX3 yX3_nextAmount wsX3_nextAmount) := goodIn_app (goodIn_of _ (by decide +kernel)) ggX4_amount_X3_nextAmount
theorem dX4_amount_0 : decode cX4_amount 0 = .ok (.iload_n 1, 1) := by decide +kernel
theorem dX4_amount_1 : decode cX4_amount 1 = .ok (.invokestatic 85, 3) := by decide +kernel
theorem dX4_amount_4 : decode cX4_amount 4 = .ok (.ifCond .ne 6, 3) := by decide +kernel
theorem dX4_amount_7 : decode cX4_amount 7 = .ok (.ldc 81, 2) := by decide +kernel
theorem dX4_amount_9 : decode cX4_amount 9 = .ok (.ireturn, 1) := by decide +kernel
theorem dX4_amount_10 : decode cX4_amount 10 = .ok (.aload_n 0, 1) := by decide +kernel
theorem dX4_amount_11 : decode cX4_amount 11 = .ok (.getfield 29, 3) := by decide +kernel
theorem dX4_amount_14 : decode cX4_amount 14 = .ok (.aload_n 0, 1) := by decide +kernel
theorem dX4_amount_15 : decode cX4_amount 15 = .ok (.getfield 10, 3) := by decide +kernel
theorem dX4_amount_18 : decode cX4_amount 18 = .ok (.iload_n 1, 1) := by decide +kernel
theorem dX4_amount_19 : decode cX4_amount 19 = .ok (.invokevirtual 105, 3) := by decide +kernel
theorem dX4_amount_22 : decode cX4_amount 22 = .ok (.ifCond .eq 13, 3) := by decide +kernel
theorem dX4_amount_25 : decode cX4_amount 25 = .ok (.aload_n 0, 1) := by decide +kernel
theorem dX4_amount_26 : decode cX4_amount 26 = .ok (.getfield 29, 3) := by decide +kernel
theorem dX4_amount_29 : decode cX4_amount 29 = .ok (.invokevirtual 115, 3) := by decide +kernel
theorem dX4_amount_32 : decode cX4_amount 32 = .ok (.goto 5, 3) := by decide +kernel
theorem dX4_amount_35 : decode cX4_amount 35 = .ok (.ldc 98, 2) := by decide +kernel
theorem dX4_amount_37 : decode cX4_amount 37 = .ok (.ireturn, 1) := by decide +kernel
set_option maxRecDepth 20000 in
theorem ggX4_spoilsIn_X0_isPupil : GoodIn wsX4_spoilsIn wsX0_isPupil := goodIn_r _ [8, 9, 10, 11, 7, 12, 13, 45, 46, 47, 48, 49, 50, 51, 52, 53, 54, 55, 56, 57] (by decide +kernel) (by decide +kernel)
set_option maxRecDepth 20000 in
theorem gX4_spoilsIn_X0_isPupil : GoodIn wsX4_spoilsIn (wsV RX4 77 RX0 yX0_isPupil wsX0_isPupil) := goodIn_app (goodIn_of _ (by decide +kernel)) ggX4_spoilsIn_X0_isPupil
set_option maxRecDepth 20000 in
theorem ggX4_spoilsIn_X0_weeksUntilNextSpoils : GoodIn wsX4_spoilsIn wsX0_weeksUntilNextSpoils := goodIn_r _ [17, 18, 19, 20, 21, 22, 23, 24, 9, 10, 11, 7, 12, 13, 25, 26, 27, 28, 29, 30, 31, 32, 33, 34, 35, 36, 37, 38, 39, 45, 46, 47, 48, 49, 50, 51, 52, 53, 54, 55, 56, 57] (by decide +kernel) (by decide +kernel)
set_option maxRecDepth 20000 in
theorem gX4_spoilsIn_X0_weeksUntilNextSpoils : GoodIn wsX4_spoilsIn (wsV RX4 126 RX0 yX0_weeksUntilNextSpoils wsX0_weeksUntilNextSpoils) := goodIn_app (goodIn_of _ (by decide +kernel)) ggX4_spoilsIn_X0_weeksUntilNextSpoils
theorem dX4_spoilsIn_0 : decode cX4_spoilsIn 0 = .ok (.aload_n 0, 1) := by decide +kernel
theorem dX4_spoilsIn_1 : decode cX4_spoilsIn 1 = .ok (.getfield 10, 3) := by decide +kernel
theorem dX4_spoilsIn_4 : decode cX4_spoilsIn 4 = .ok (.iload_n 1, 1) := by decide +kernel
theorem dX4_spoilsIn_5 : decode cX4_spoilsIn 5 = .ok (.invokevirtual 77, 3) := by decide +kernel
theorem dX4_spoilsIn_8 : decode cX4_spoilsIn 8 = .ok (.ifCond .ne 6, 3) := by decide +kernel
theorem dX4_spoilsIn_11 : decode cX4_spoilsIn 11 = .ok (.ldc 81, 2) := by decide +kernel
theorem dX4_spoilsIn_13 : decode cX4_spoilsIn 13 = .ok (.ireturn, 1) := by decide +kernel
theorem dX4_spoilsIn_14 : decode cX4_spoilsIn 14 = .ok (.aload_n 0, 1) := by decide +kernel
theorem dX4_spoilsIn_15 : decode cX4_spoilsIn 15 = .ok (.getfield 10, 3) := by decide +kernel
theorem dX4_spoilsIn_18 : decode cX4_spoilsIn 18 = .ok (.iload_n 1, 1) := by decide +kernel
theorem dX4_spoilsIn_19 : decode cX4_spoilsIn 19 = .ok (.invokevirtual 126, 3) := by decide +kernel
theorem dX4_spoilsIn_22 : decode cX4_spoilsIn 22 = .ok (.istore_n 2, 1) := by decide +kernel
theorem dX4_spoilsIn_23 : decode cX4_spoilsIn 23 = .ok (.iload_n 2, 1) := by decide +kernel
theorem dX4_spoilsIn_24 : decode cX4_spoilsIn 24 = .ok (.ifCond .le 7, 3) := by decide +kernel
theorem dX4_spoilsIn_27 : decode cX4_spoilsIn 27 = .ok (.iload_n 2, 1) := by decide +kernel
theorem dX4_spoilsIn_28 : decode cX4_spoilsIn 28 = .ok (.goto 5, 3) := by decide +kernel
theorem dX4_spoilsIn_31 : decode cX4_spoilsIn 31 = .ok (.ldc 98, 2) := by decide +kernel
theorem dX4_spoilsIn_33 : decode cX4_spoilsIn 33 = .ok (.ireturn, 1) := by decide +kernel
set_option maxRecDepth 20000 in
theorem ggX4_richest_X0_number : GoodIn wsX4_richest wsX0_number := goodIn_r _ [8, 9, 39, 40, 41, 42, 43, 44, 45, 46, 47, 48, 49, 50, 51] (by decide +kernel) (by decide +kernel)
set_option maxRecDepth 20000 in
theorem gX4_richest_X0_number : GoodIn wsX4_richest (wsV RX4 92 RX0 yX0_number wsX0_number) := goodIn_app (goodIn_of _ (by decide +kernel)) ggX4_richest_X0_number
set_option maxRecDepth 20000 in
theorem ggX4_richest_X0_rankOf : GoodIn wsX4_richest wsX0_rankOf := goodIn_r _ [13, 14, 15, 16, 7, 17, 18, 19, 20, 21, 22, 23, 5, 6, 8, 9, 24, 25, 26, 27, 28, 29, 30, 31, 32, 33, 39, 40, 41, 42, 43, 44, 45, 46, 47, 48, 49, 50, 51] (by decide +kernel) (by decide +kernel)
set_option maxRecDepth 20000 in
theorem gX4_richest_X0_rankOf : GoodIn wsX4_richest (wsV RX4 129 RX0 yX0_rankOf wsX0_rankOf) := goodIn_app (goodIn_of _ (by decide +kernel)) ggX4_richest_X0_rankOf
theorem dX4_richest_0 : decode cX4_richest 0 = .ok (.iload_n 1, 1) := by decide +kernel
theorem dX4_richest_1 : decode cX4_richest 1 = .ok (.ifCond .ge 6, 3) := by decide +kernel
theorem dX4_richest_4 : decode cX4_richest 4 = .ok (.ldc 81, 2) := by decide +kernel
theorem dX4_richest_6 : decode cX4_richest 6 = .ok (.ireturn, 1) := by decide +kernel
theorem dX4_richest_7 : decode cX4_richest 7 = .ok (.iconst 0, 1) := by decide +kernel
theorem dX4_richest_8 : decode cX4_richest 8 = .ok (.istore_n 2, 1) := by decide +kernel
theorem dX4_richest_9 : decode cX4_richest 9 = .ok (.iload_n 2, 1) := by decide +kernel
theorem dX4_richest_10 : decode cX4_richest 10 = .ok (.aload_n 0, 1) := by decide +kernel
theorem dX4_richest_11 : decode cX4_richest 11 = .ok (.getfield 10, 3) := by decide +kernel
theorem dX4_richest_14 : decode cX4_richest 14 = .ok (.iconst 1, 1) := by decide +kernel
theorem dX4_richest_15 : decode cX4_richest 15 = .ok (.invokevirtual 92, 3) := by decide +kernel
theorem dX4_richest_18 : decode cX4_richest 18 = .ok (.if_icmp .ge 23, 3) := by decide +kernel
theorem dX4_richest_21 : decode cX4_richest 21 = .ok (.aload_n 0, 1) := by decide +kernel
theorem dX4_richest_22 : decode cX4_richest 22 = .ok (.getfield 10, 3) := by decide +kernel
theorem dX4_richest_25 : decode cX4_richest 25 = .ok (.iload_n 2, 1) := by decide +kernel
theorem dX4_richest_26 : decode cX4_richest 26 = .ok (.invokevirtual 129, 3) := by decide +kernel
theorem dX4_richest_29 : decode cX4_richest 29 = .ok (.iload_n 1, 1) := by decide +kernel
theorem dX4_richest_30 : decode cX4_richest 30 = .ok (.if_icmp .ne 5, 3) := by decide +kernel
theorem dX4_richest_33 : decode cX4_richest 33 = .ok (.iload_n 2, 1) := by decide +kernel
theorem dX4_richest_34 : decode cX4_richest 34 = .ok (.ireturn, 1) := by decide +kernel
theorem dX4_richest_35 : decode cX4_richest 35 = .ok (.iinc 2 1, 3) := by decide +kernel
theorem dX4_richest_38 : decode cX4_richest 38 = .ok (.goto (-29), 3) := by decide +kernel
theorem dX4_richest_41 : decode cX4_richest 41 = .ok (.ldc 98, 2) := by decide +kernel
theorem dX4_richest_43 : decode cX4_richest 43 = .ok (.ireturn, 1) := by decide +kernel
set_option maxRecDepth 20000 in
theorem ggX4_count_X0_sumOwed : GoodIn wsX4_count wsX0_sumOwed := goodIn_r _ [9, 10, 11, 12, 13, 8, 14, 15, 16, 17, 18, 19, 20, 21, 22, 23, 24, 25, 53, 54, 55, 56, 57, 58, 59, 60, 61, 62, 63, 64, 65] (by decide +kernel) (by decide +kernel)
set_option maxRecDepth 20000 in
theorem gX4_count_X0_sumOwed : GoodIn wsX4_count (wsV RX4 88 RX0 yX0_sumOwed wsX0_sumOwed) := goodIn_app (goodIn_of _ (by decide +kernel)) ggX4_count_X0_sumOwed
set_option maxRecDepth 20000 in
theorem ggX4_count_X0_setWithoutGuarantor : GoodIn wsX4_count wsX0_setWithoutGuarantor := goodIn_r _ [29, 11, 12, 13, 8, 14, 15, 30, 31, 32, 33, 34, 53, 54, 55, 56, 57, 58, 59, 60, 61, 62, 63, 64, 65] (by decide +kernel) (by decide +kernel)
set_option maxRecDepth 20000 in
theorem gX4_count_X0_setWithoutGuarantor : GoodIn wsX4_count (wsV RX4 139 RX0 yX0_setWithoutGuarantor wsX0_setWithoutGuarantor) := goodIn_app (goodIn_of _ (by decide +kernel)) ggX4_count_X0_setWithoutGuarantor
set_option maxRecDepth 20000 in
theorem ggX4_count_X1_size : GoodIn wsX4_count wsX1_size := goodIn_r _ [39, 40, 66, 67] (by decide +kernel) (by decide +kernel)
set_option maxRecDepth 20000 in
theorem gX4_count_X1_size : GoodIn wsX4_count (wsV RX4 142 RX1 yX1_size wsX1_size) := goodIn_app (goodIn_of _ (by decide +kernel)) ggX4_count_X1_size
set_option maxRecDepth 20000 in
theorem ggX4_count_X2_length : GoodIn wsX4_count wsX2_length := goodIn_r _ [45, 46, 68, 69, 70, 71, 72, 73, 74, 75] (by decide +kernel) (by decide +kernel)
set_option maxRecDepth 20000 in
theorem gX4_count_X2_length : GoodIn wsX4_count (wsV RX4 145 RX2 yX2_length wsX2_length) := goodIn_app (goodIn_of _ (by decide +kernel)) ggX4_count_X2_length
set_option maxRecDepth 20000 in
theorem ggX4_count_X0_number : GoodIn wsX4_count wsX0_number := goodIn_r _ [14, 15, 53, 54, 55, 56, 57, 58, 59, 60, 61, 62, 63, 64, 65] (by decide +kernel) (by decide +kernel)
set_option maxRecDepth 20000 in
theorem gX4_count_X0_number : GoodIn wsX4_count (wsV RX4 92 RX0 yX0_number wsX0_number) := goodIn_app (goodIn_of _ (by decide +kernel)) ggX4_count_X0_number
theorem dX4_count_0 : decode cX4_count 0 = .ok (.iload_n 1, 1) := by decide +kernel
theorem dX4_count_1 : decode cX4_count 1 = .ok (.ifCond .lt 21, 3) := by decide +kernel
theorem dX4_count_4 : decode cX4_count 4 = .ok (.iload_n 1, 1) := by decide +kernel
theorem dX4_count_5 : decode cX4_count 5 = .ok (.bipush 13, 2) := by decide +kernel
theorem dX4_count_7 : decode cX4_count 7 = .ok (.if_icmp .le 9, 3) := by decide +kernel
theorem dX4_count_10 : decode cX4_count 10 = .ok (.iload_n 1, 1) := by decide +kernel
theorem dX4_count_11 : decode cX4_count 11 = .ok (.bipush 20, 2) := by decide +kernel
theorem dX4_count_13 : decode cX4_count 13 = .ok (.if_icmp .lt 9, 3) := by decide +kernel
theorem dX4_count_16 : decode cX4_count 16 = .ok (.iload_n 1, 1) := by decide +kernel
theorem dX4_count_17 : decode cX4_count 17 = .ok (.bipush 26, 2) := by decide +kernel
theorem dX4_count_19 : decode cX4_count 19 = .ok (.if_icmp .lt 6, 3) := by decide +kernel
theorem dX4_count_22 : decode cX4_count 22 = .ok (.ldc 81, 2) := by decide +kernel
theorem dX4_count_24 : decode cX4_count 24 = .ok (.ireturn, 1) := by decide +kernel
theorem dX4_count_25 : decode cX4_count 25 = .ok (.iload_n 1, 1) := by decide +kernel
theorem dX4_count_26 : decode cX4_count 26 = .ok (.lookupswitch 77 #[(3, 42), (11, 53), (12, 61), (13, 69)], 42) := by decide +kernel
theorem dX4_count_68 : decode cX4_count 68 = .ok (.aload_n 0, 1) := by decide +kernel
theorem dX4_count_69 : decode cX4_count 69 = .ok (.getfield 10, 3) := by decide +kernel
theorem dX4_count_72 : decode cX4_count 72 = .ok (.iconst (-1), 1) := by decide +kernel
theorem dX4_count_73 : decode cX4_count 73 = .ok (.iconst (-1), 1) := by decide +kernel
theorem dX4_count_74 : decode cX4_count 74 = .ok (.iconst (-1), 1) := by decide +kernel
theorem dX4_count_75 : decode cX4_count 75 = .ok (.invokevirtual 88, 3) := by decide +kernel
theorem dX4_count_78 : decode cX4_count 78 = .ok (.ireturn, 1) := by decide +kernel
theorem dX4_count_79 : decode cX4_count 79 = .ok (.aload_n 0, 1) := by decide +kernel
theorem dX4_count_80 : decode cX4_count 80 = .ok (.getfield 10, 3) := by decide +kernel
theorem dX4_count_83 : decode cX4_count 83 = .ok (.invokevirtual 139, 3) := by decide +kernel
theorem dX4_count_86 : decode cX4_count 86 = .ok (.ireturn, 1) := by decide +kernel
theorem dX4_count_87 : decode cX4_count 87 = .ok (.aload_n 0, 1) := by decide +kernel
theorem dX4_count_88 : decode cX4_count 88 = .ok (.getfield 22, 3) := by decide +kernel
theorem dX4_count_91 : decode cX4_count 91 = .ok (.invokevirtual 142, 3) := by decide +kernel
theorem dX4_count_94 : decode cX4_count 94 = .ok (.ireturn, 1) := by decide +kernel
theorem dX4_count_95 : decode cX4_count 95 = .ok (.aload_n 0, 1) := by decide +kernel
theorem dX4_count_96 : decode cX4_count 96 = .ok (.getfield 36, 3) := by decide +kernel
theorem dX4_count_99 : decode cX4_count 99 = .ok (.invokevirtual 145, 3) := by decide +kernel
theorem dX4_count_102 : decode cX4_count 102 = .ok (.ireturn, 1) := by decide +kernel
theorem dX4_count_103 : decode cX4_count 103 = .ok (.aload_n 0, 1) := by decide +kernel
theorem dX4_count_104 : decode cX4_count 104 = .ok (.getfield 10, 3) := by decide +kernel
theorem dX4_count_107 : decode cX4_count 107 = .ok (.iload_n 1, 1) := by decide +kernel
theorem dX4_count_108 : decode cX4_count 108 = .ok (.invokevirtual 92, 3) := by decide +kernel
theorem dX4_count_111 : decode cX4_count 111 = .ok (.ireturn, 1) := by decide +kernel
set_option maxRecDepth 20000 in
theorem ggX4_freshTrial_X0_copyFrom : GoodIn wsX4_freshTrial wsX0_copyFrom := goodIn_r _ [7, 8, 9, 10, 11, 12, 13, 14, 15, 16, 17, 18, 19, 20, 21, 22, 23, 24, 25, 26, 27, 28, 29, 30, 31, 37, 38, 39, 40, 41, 42, 43, 44, 45, 46, 47, 48, 49] (by decide +kernel) (by decide +kernel)
set_option maxRecDepth 20000 in
theorem gX4_freshTrial_X0_copyFrom : GoodIn wsX4_freshTrial (wsV RX4 175 RX0 yX0_copyFrom wsX0_copyFrom) := goodIn_app (goodIn_of _ (by decide +kernel)) ggX4_freshTrial_X0_copyFrom
theorem dX4_freshTrial_0 : decode cX4_freshTrial 0 = .ok (.aload_n 0, 1) := by decide +kernel

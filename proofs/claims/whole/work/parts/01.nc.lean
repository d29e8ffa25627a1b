set_option maxRecDepth 20000 in
theorem ggX1_init_X0_init : GoodIn wsX1_init wsX0_init := goodIn_r _ [10, 11, 2, 3, 12, 13, 14, 15, 16, 17, 18, 19, 20, 21, 22, 23, 24, 25, 26, 27, 28, 29, 30, 33, 34, 35, 36, 37, 38, 39, 40, 41, 42, 43, 44, 45] (by decide +kernel) (by decide +kernel)
set_option maxRecDepth 20000 in
theorem gX1_init_X0_init : GoodIn wsX1_init (wsX0_init) := ggX1_init_X0_init
theorem dX1_init_0 : decode cX1_init 0 = .ok (.aload_n 0, 1) := by decide +kernel
theorem dX1_init_1 : decode cX1_init 1 = .ok (.invokespecial 3, 3) := by decide +kernel
theorem dX1_init_4 : decode cX1_init 4 = .ok (.aload_n 0, 1) := by decide +kernel
theorem dX1_init_5 : decode cX1_init 5 = .ok (.iconst 4, 1) := by decide +kernel
theorem dX1_init_6 : decode cX1_init 6 = .ok (.anewarray 9, 3) := by decide +kernel
theorem dX1_init_9 : decode cX1_init 9 = .ok (.putfield 11, 3) := by decide +kernel
theorem dX1_init_12 : decode cX1_init 12 = .ok (.iconst 0, 1) := by decide +kernel
theorem dX1_init_13 : decode cX1_init 13 = .ok (.istore_n 1, 1) := by decide +kernel
theorem dX1_init_14 : decode cX1_init 14 = .ok (.iload_n 1, 1) := by decide +kernel
theorem dX1_init_15 : decode cX1_init 15 = .ok (.aload_n 0, 1) := by decide +kernel
theorem dX1_init_16 : decode cX1_init 16 = .ok (.getfield 11, 3) := by decide +kernel
theorem dX1_init_19 : decode cX1_init 19 = .ok (.arraylength, 1) := by decide +kernel
theorem dX1_init_20 : decode cX1_init 20 = .ok (.if_icmp .ge 22, 3) := by decide +kernel
theorem dX1_init_23 : decode cX1_init 23 = .ok (.aload_n 0, 1) := by decide +kernel
theorem dX1_init_24 : decode cX1_init 24 = .ok (.getfield 11, 3) := by decide +kernel
theorem dX1_init_27 : decode cX1_init 27 = .ok (.iload_n 1, 1) := by decide +kernel
theorem dX1_init_28 : decode cX1_init 28 = .ok (.new 9, 3) := by decide +kernel
theorem dX1_init_31 : decode cX1_init 31 = .ok (.dup, 1) := by decide +kernel
theorem dX1_init_32 : decode cX1_init 32 = .ok (.invokespecial 17, 3) := by decide +kernel
theorem dX1_init_35 : decode cX1_init 35 = .ok (.aastore, 1) := by decide +kernel
theorem dX1_init_36 : decode cX1_init 36 = .ok (.iinc 1 1, 3) := by decide +kernel
theorem dX1_init_39 : decode cX1_init 39 = .ok (.goto (-25), 3) := by decide +kernel
theorem dX1_init_42 : decode cX1_init 42 = .ok (.return_, 1) := by decide +kernel
theorem dX1_size_0 : decode cX1_size 0 = .ok (.aload_n 0, 1) := by decide +kernel
theorem dX1_size_1 : decode cX1_size 1 = .ok (.getfield 18, 3) := by decide +kernel
theorem dX1_size_4 : decode cX1_size 4 = .ok (.ireturn, 1) := by decide +kernel
set_option maxRecDepth 20000 in
theorem ggX1_keep_X1_dropOldest : GoodIn wsX1_keep wsX1_dropOldest := goodIn_r _ [7, 2, 1, 8, 9, 10, 11, 12, 13, 14, 15, 16, 17, 18, 19, 20, 21, 22, 23, 24, 25, 26, 27, 28, 29, 30, 31, 32, 33, 34, 35, 36, 37, 38, 39, 40, 41, 42, 43, 44, 45, 46, 47, 48, 49, 50, 51] (by decide +kernel) (by decide +kernel)
set_option maxRecDepth 20000 in
theorem gX1_keep_X1_dropOldest : GoodIn wsX1_keep (wsV RX1 22 RX1 yX1_dropOldest wsX1_dropOldest) := goodIn_app (goodIn_of _ (by decide +kernel)) ggX1_keep_X1_dropOldest
set_option maxRecDepth 20000 in
theorem ggX1_keep_X0_copyFrom : GoodIn wsX1_keep wsX0_copyFrom := goodIn_r _ [12, 13, 14, 15, 16, 17, 18, 19, 20, 21, 22, 23, 24, 25, 26, 27, 28, 29, 30, 31, 32, 33, 34, 35, 36, 39, 40, 41, 42, 43, 44, 45, 46, 47, 48, 49, 50, 51] (by decide +kernel) (by decide +kernel)
set_option maxRecDepth 20000 in
theorem gX1_keep_X0_copyFrom : GoodIn wsX1_keep (wsV RX1 25 RX0 yX0_copyFrom wsX0_copyFrom) := goodIn_app (goodIn_of _ (by decide +kernel)) ggX1_keep_X0_copyFrom
theorem dX1_keep_0 : decode cX1_keep 0 = .ok (.aload_n 0, 1) := by decide +kernel
theorem dX1_keep_1 : decode cX1_keep 1 = .ok (.getfield 18, 3) := by decide +kernel
theorem dX1_keep_4 : decode cX1_keep 4 = .ok (.iconst 4, 1) := by decide +kernel
theorem dX1_keep_5 : decode cX1_keep 5 = .ok (.if_icmp .lt 7, 3) := by decide +kernel
theorem dX1_keep_8 : decode cX1_keep 8 = .ok (.aload_n 0, 1) := by decide +kernel
theorem dX1_keep_9 : decode cX1_keep 9 = .ok (.invokevirtual 22, 3) := by decide +kernel
theorem dX1_keep_12 : decode cX1_keep 12 = .ok (.aload_n 0, 1) := by decide +kernel
theorem dX1_keep_13 : decode cX1_keep 13 = .ok (.getfield 18, 3) := by decide +kernel
theorem dX1_keep_16 : decode cX1_keep 16 = .ok (.ifCond .lt 50, 3) := by decide +kernel
theorem dX1_keep_19 : decode cX1_keep 19 = .ok (.aload_n 0, 1) := by decide +kernel
theorem dX1_keep_20 : decode cX1_keep 20 = .ok (.getfield 18, 3) := by decide +kernel
theorem dX1_keep_23 : decode cX1_keep 23 = .ok (.aload_n 0, 1) := by decide +kernel
theorem dX1_keep_24 : decode cX1_keep 24 = .ok (.getfield 11, 3) := by decide +kernel
theorem dX1_keep_27 : decode cX1_keep 27 = .ok (.arraylength, 1) := by decide +kernel
theorem dX1_keep_28 : decode cX1_keep 28 = .ok (.if_icmp .ge 38, 3) := by decide +kernel
theorem dX1_keep_31 : decode cX1_keep 31 = .ok (.aload_n 0, 1) := by decide +kernel
theorem dX1_keep_32 : decode cX1_keep 32 = .ok (.getfield 11, 3) := by decide +kernel
theorem dX1_keep_35 : decode cX1_keep 35 = .ok (.aload_n 0, 1) := by decide +kernel
theorem dX1_keep_36 : decode cX1_keep 36 = .ok (.getfield 18, 3) := by decide +kernel
theorem dX1_keep_39 : decode cX1_keep 39 = .ok (.aaload, 1) := by decide +kernel
theorem dX1_keep_40 : decode cX1_keep 40 = .ok (.ifnull 26, 3) := by decide +kernel
theorem dX1_keep_43 : decode cX1_keep 43 = .ok (.aload_n 0, 1) := by decide +kernel
theorem dX1_keep_44 : decode cX1_keep 44 = .ok (.getfield 11, 3) := by decide +kernel
theorem dX1_keep_47 : decode cX1_keep 47 = .ok (.aload_n 0, 1) := by decide +kernel
theorem dX1_keep_48 : decode cX1_keep 48 = .ok (.getfield 18, 3) := by decide +kernel
theorem dX1_keep_51 : decode cX1_keep 51 = .ok (.aaload, 1) := by decide +kernel
theorem dX1_keep_52 : decode cX1_keep 52 = .ok (.aload_n 1, 1) := by decide +kernel
theorem dX1_keep_53 : decode cX1_keep 53 = .ok (.invokevirtual 25, 3) := by decide +kernel
theorem dX1_keep_56 : decode cX1_keep 56 = .ok (.aload_n 0, 1) := by decide +kernel
theorem dX1_keep_57 : decode cX1_keep 57 = .ok (.dup, 1) := by decide +kernel
theorem dX1_keep_58 : decode cX1_keep 58 = .ok (.getfield 18, 3) := by decide +kernel
theorem dX1_keep_61 : decode cX1_keep 61 = .ok (.iconst 1, 1) := by decide +kernel
theorem dX1_keep_62 : decode cX1_keep 62 = .ok (.iadd, 1) := by decide +kernel
theorem dX1_keep_63 : decode cX1_keep 63 = .ok (.putfield 18, 3) := by decide +kernel
theorem dX1_keep_66 : decode cX1_keep 66 = .ok (.return_, 1) := by decide +kernel
set_option maxRecDepth 20000 in
theorem ggX1_dropOldest_X0_copyFrom : GoodIn wsX1_dropOldest wsX0_copyFrom := goodIn_r _ [7, 8, 9, 10, 11, 12, 13, 14, 15, 16, 17, 18, 19, 20, 21, 22, 23, 24, 25, 26, 27, 28, 29, 30, 31, 34, 35, 36, 37, 38, 39, 40, 41, 42, 43, 44, 45, 46] (by decide +kernel) (by decide +kernel)
set_option maxRecDepth 20000 in
theorem gX1_dropOldest_X0_copyFrom : GoodIn wsX1_dropOldest (wsV RX1 25 RX0 yX0_copyFrom wsX0_copyFrom) := goodIn_app (goodIn_of _ (by decide +kernel)) ggX1_dropOldest_X0_copyFrom
theorem dX1_dropOldest_0 : decode cX1_dropOldest 0 = .ok (.iconst 1, 1) := by decide +kernel
theorem dX1_dropOldest_1 : decode cX1_dropOldest 1 = .ok (.istore_n 1, 1) := by decide +kernel
theorem dX1_dropOldest_2 : decode cX1_dropOldest 2 = .ok (.iload_n 1, 1) := by decide +kernel
theorem dX1_dropOldest_3 : decode cX1_dropOldest 3 = .ok (.aload_n 0, 1) := by decide +kernel
theorem dX1_dropOldest_4 : decode cX1_dropOldest 4 = .ok (.getfield 11, 3) := by decide +kernel
theorem dX1_dropOldest_7 : decode cX1_dropOldest 7 = .ok (.arraylength, 1) := by decide +kernel
theorem dX1_dropOldest_8 : decode cX1_dropOldest 8 = .ok (.if_icmp .ge 46, 3) := by decide +kernel
theorem dX1_dropOldest_11 : decode cX1_dropOldest 11 = .ok (.aload_n 0, 1) := by decide +kernel
theorem dX1_dropOldest_12 : decode cX1_dropOldest 12 = .ok (.getfield 11, 3) := by decide +kernel
theorem dX1_dropOldest_15 : decode cX1_dropOldest 15 = .ok (.iload_n 1, 1) := by decide +kernel
theorem dX1_dropOldest_16 : decode cX1_dropOldest 16 = .ok (.iconst 1, 1) := by decide +kernel
theorem dX1_dropOldest_17 : decode cX1_dropOldest 17 = .ok (.isub, 1) := by decide +kernel
theorem dX1_dropOldest_18 : decode cX1_dropOldest 18 = .ok (.aaload, 1) := by decide +kernel
theorem dX1_dropOldest_19 : decode cX1_dropOldest 19 = .ok (.ifnull 29, 3) := by decide +kernel
theorem dX1_dropOldest_22 : decode cX1_dropOldest 22 = .ok (.aload_n 0, 1) := by decide +kernel
theorem dX1_dropOldest_23 : decode cX1_dropOldest 23 = .ok (.getfield 11, 3) := by decide +kernel
theorem dX1_dropOldest_26 : decode cX1_dropOldest 26 = .ok (.iload_n 1, 1) := by decide +kernel
theorem dX1_dropOldest_27 : decode cX1_dropOldest 27 = .ok (.aaload, 1) := by decide +kernel
theorem dX1_dropOldest_28 : decode cX1_dropOldest 28 = .ok (.ifnull 20, 3) := by decide +kernel
theorem dX1_dropOldest_31 : decode cX1_dropOldest 31 = .ok (.aload_n 0, 1) := by decide +kernel
theorem dX1_dropOldest_32 : decode cX1_dropOldest 32 = .ok (.getfield 11, 3) := by decide +kernel
theorem dX1_dropOldest_35 : decode cX1_dropOldest 35 = .ok (.iload_n 1, 1) := by decide +kernel
theorem dX1_dropOldest_36 : decode cX1_dropOldest 36 = .ok (.iconst 1, 1) := by decide +kernel
theorem dX1_dropOldest_37 : decode cX1_dropOldest 37 = .ok (.isub, 1) := by decide +kernel
theorem dX1_dropOldest_38 : decode cX1_dropOldest 38 = .ok (.aaload, 1) := by decide +kernel
theorem dX1_dropOldest_39 : decode cX1_dropOldest 39 = .ok (.aload_n 0, 1) := by decide +kernel
theorem dX1_dropOldest_40 : decode cX1_dropOldest 40 = .ok (.getfield 11, 3) := by decide +kernel
theorem dX1_dropOldest_43 : decode cX1_dropOldest 43 = .ok (.iload_n 1, 1) := by decide +kernel
theorem dX1_dropOldest_44 : decode cX1_dropOldest 44 = .ok (.aaload, 1) := by decide +kernel
theorem dX1_dropOldest_45 : decode cX1_dropOldest 45 = .ok (.invokevirtual 25, 3) := by decide +kernel
theorem dX1_dropOldest_48 : decode cX1_dropOldest 48 = .ok (.iinc 1 1, 3) := by decide +kernel
theorem dX1_dropOldest_51 : decode cX1_dropOldest 51 = .ok (.goto (-49), 3) := by decide +kernel
theorem dX1_dropOldest_54 : decode cX1_dropOldest 54 = .ok (.aload_n 0, 1) := by decide +kernel
theorem dX1_dropOldest_55 : decode cX1_dropOldest 55 = .ok (.dup, 1) := by decide +kernel
theorem dX1_dropOldest_56 : decode cX1_dropOldest 56 = .ok (.getfield 18, 3) := by decide +kernel
theorem dX1_dropOldest_59 : decode cX1_dropOldest 59 = .ok (.iconst 1, 1) := by decide +kernel
theorem dX1_dropOldest_60 : decode cX1_dropOldest 60 = .ok (.isub, 1) := by decide +kernel
theorem dX1_dropOldest_61 : decode cX1_dropOldest 61 = .ok (.putfield 18, 3) := by decide +kernel
theorem dX1_dropOldest_64 : decode cX1_dropOldest 64 = .ok (.return_, 1) := by decide +kernel
set_option maxRecDepth 20000 in
theorem ggX1_restoreLatest_X0_copyFrom : GoodIn wsX1_restoreLatest wsX0_copyFrom := goodIn_r _ [8, 9, 10, 11, 12, 13, 14, 15, 16, 17, 18, 19, 20, 21, 22, 23, 24, 25, 26, 27, 28, 29, 30, 31, 32, 35, 36, 37, 38, 39, 40, 41, 42, 43, 44, 45, 46, 47] (by decide +kernel) (by decide +kernel)
set_option maxRecDepth 20000 in
theorem gX1_restoreLatest_X0_copyFrom : GoodIn wsX1_restoreLatest (wsV RX1 25 RX0 yX0_copyFrom wsX0_copyFrom) := goodIn_app (goodIn_of _ (by decide +kernel)) ggX1_restoreLatest_X0_copyFrom
theorem dX1_restoreLatest_0 : decode cX1_restoreLatest 0 = .ok (.aload_n 0, 1) := by decide +kernel
theorem dX1_restoreLatest_1 : decode cX1_restoreLatest 1 = .ok (.getfield 18, 3) := by decide +kernel
theorem dX1_restoreLatest_4 : decode cX1_restoreLatest 4 = .ok (.iconst 1, 1) := by decide +kernel
theorem dX1_restoreLatest_5 : decode cX1_restoreLatest 5 = .ok (.isub, 1) := by decide +kernel
theorem dX1_restoreLatest_6 : decode cX1_restoreLatest 6 = .ok (.istore_n 2, 1) := by decide +kernel
theorem dX1_restoreLatest_7 : decode cX1_restoreLatest 7 = .ok (.iload_n 2, 1) := by decide +kernel
theorem dX1_restoreLatest_8 : decode cX1_restoreLatest 8 = .ok (.ifCond .lt 21, 3) := by decide +kernel
theorem dX1_restoreLatest_11 : decode cX1_restoreLatest 11 = .ok (.iload_n 2, 1) := by decide +kernel
theorem dX1_restoreLatest_12 : decode cX1_restoreLatest 12 = .ok (.aload_n 0, 1) := by decide +kernel
theorem dX1_restoreLatest_13 : decode cX1_restoreLatest 13 = .ok (.getfield 11, 3) := by decide +kernel
theorem dX1_restoreLatest_16 : decode cX1_restoreLatest 16 = .ok (.arraylength, 1) := by decide +kernel
theorem dX1_restoreLatest_17 : decode cX1_restoreLatest 17 = .ok (.if_icmp .ge 12, 3) := by decide +kernel
theorem dX1_restoreLatest_20 : decode cX1_restoreLatest 20 = .ok (.aload_n 0, 1) := by decide +kernel
theorem dX1_restoreLatest_21 : decode cX1_restoreLatest 21 = .ok (.getfield 11, 3) := by decide +kernel
theorem dX1_restoreLatest_24 : decode cX1_restoreLatest 24 = .ok (.iload_n 2, 1) := by decide +kernel
theorem dX1_restoreLatest_25 : decode cX1_restoreLatest 25 = .ok (.aaload, 1) := by decide +kernel
theorem dX1_restoreLatest_26 : decode cX1_restoreLatest 26 = .ok (.ifnonnull 6, 3) := by decide +kernel
theorem dX1_restoreLatest_29 : decode cX1_restoreLatest 29 = .ok (.ldc 29, 2) := by decide +kernel
theorem dX1_restoreLatest_31 : decode cX1_restoreLatest 31 = .ok (.ireturn, 1) := by decide +kernel
theorem dX1_restoreLatest_32 : decode cX1_restoreLatest 32 = .ok (.aload_n 1, 1) := by decide +kernel
theorem dX1_restoreLatest_33 : decode cX1_restoreLatest 33 = .ok (.aload_n 0, 1) := by decide +kernel
theorem dX1_restoreLatest_34 : decode cX1_restoreLatest 34 = .ok (.getfield 11, 3) := by decide +kernel
theorem dX1_restoreLatest_37 : decode cX1_restoreLatest 37 = .ok (.iload_n 2, 1) := by decide +kernel
theorem dX1_restoreLatest_38 : decode cX1_restoreLatest 38 = .ok (.aaload, 1) := by decide +kernel
theorem dX1_restoreLatest_39 : decode cX1_restoreLatest 39 = .ok (.invokevirtual 25, 3) := by decide +kernel
theorem dX1_restoreLatest_42 : decode cX1_restoreLatest 42 = .ok (.aload_n 0, 1) := by decide +kernel
theorem dX1_restoreLatest_43 : decode cX1_restoreLatest 43 = .ok (.iload_n 2, 1) := by decide +kernel
theorem dX1_restoreLatest_44 : decode cX1_restoreLatest 44 = .ok (.putfield 18, 3) := by decide +kernel
theorem dX1_restoreLatest_47 : decode cX1_restoreLatest 47 = .ok (.aload_n 0, 1) := by decide +kernel
theorem dX1_restoreLatest_48 : decode cX1_restoreLatest 48 = .ok (.getfield 18, 3) := by decide +kernel
theorem dX1_restoreLatest_51 : decode cX1_restoreLatest 51 = .ok (.ireturn, 1) := by decide +kernel
theorem dX2_init_0 : decode cX2_init 0 = .ok (.aload_n 0, 1) := by decide +kernel
theorem dX2_init_1 : decode cX2_init 1 = .ok (.invokespecial 3, 3) := by decide +kernel
theorem dX2_init_4 : decode cX2_init 4 = .ok (.aload_n 0, 1) := by decide +kernel
theorem dX2_init_5 : decode cX2_init 5 = .ok (.bipush 60, 2) := by decide +kernel
theorem dX2_init_7 : decode cX2_init 7 = .ok (.newarray .int, 2) := by decide +kernel
theorem dX2_init_9 : decode cX2_init 9 = .ok (.putfield 9, 3) := by decide +kernel
theorem dX2_init_12 : decode cX2_init 12 = .ok (.aload_n 0, 1) := by decide +kernel
theorem dX2_init_13 : decode cX2_init 13 = .ok (.iconst 4, 1) := by decide +kernel
theorem dX2_init_14 : decode cX2_init 14 = .ok (.newarray .int, 2) := by decide +kernel
theorem dX2_init_16 : decode cX2_init 16 = .ok (.putfield 15, 3) := by decide +kernel
theorem dX2_init_19 : decode cX2_init 19 = .ok (.return_, 1) := by decide +kernel
theorem dX2_length_0 : decode cX2_length 0 = .ok (.aload_n 0, 1) := by decide +kernel
theorem dX2_length_1 : decode cX2_length 1 = .ok (.getfield 18, 3) := by decide +kernel
theorem dX2_length_4 : decode cX2_length 4 = .ok (.ireturn, 1) := by decide +kernel
theorem dX2_ordersDone_0 : decode cX2_ordersDone 0 = .ok (.aload_n 0, 1) := by decide +kernel
theorem dX2_ordersDone_1 : decode cX2_ordersDone 1 = .ok (.getfield 22, 3) := by decide +kernel
theorem dX2_ordersDone_4 : decode cX2_ordersDone 4 = .ok (.ireturn, 1) := by decide +kernel
theorem dX2_faultPlace_0 : decode cX2_faultPlace 0 = .ok (.aload_n 0, 1) := by decide +kernel
theorem dX2_faultPlace_1 : decode cX2_faultPlace 1 = .ok (.getfield 25, 3) := by decide +kernel
theorem dX2_faultPlace_4 : decode cX2_faultPlace 4 = .ok (.ireturn, 1) := by decide +kernel
theorem dX2_faultReason_0 : decode cX2_faultReason 0 = .ok (.aload_n 0, 1) := by decide +kernel
theorem dX2_faultReason_1 : decode cX2_faultReason 1 = .ok (.getfield 28, 3) := by decide +kernel
theorem dX2_faultReason_4 : decode cX2_faultReason 4 = .ok (.ireturn, 1) := by decide +kernel
theorem dX2_faultCause_0 : decode cX2_faultCause 0 = .ok (.aload_n 0, 1) := by decide +kernel
theorem dX2_faultCause_1 : decode cX2_faultCause 1 = .ok (.getfield 31, 3) := by decide +kernel
theorem dX2_faultCause_4 : decode cX2_faultCause 4 = .ok (.ireturn, 1) := by decide +kernel
set_option maxRecDepth 20000 in
theorem ggX2_append_X4_put : GoodIn wsX2_append wsX4_put := goodIn_r _ [7] (by decide +kernel) (by decide +kernel)
set_option maxRecDepth 20000 in
theorem gX2_append_X4_put_n36 : GoodIn wsX2_append (wsX4_put) := ggX2_append_X4_put
theorem dX2_append_0 : decode cX2_append 0 = .ok (.iload_n 1, 1) := by decide +kernel
theorem dX2_append_1 : decode cX2_append 1 = .ok (.bipush 32, 2) := by decide +kernel
theorem dX2_append_3 : decode cX2_append 3 = .ok (.if_icmp .lt 9, 3) := by decide +kernel
theorem dX2_append_6 : decode cX2_append 6 = .ok (.iload_n 1, 1) := by decide +kernel
theorem dX2_append_7 : decode cX2_append 7 = .ok (.bipush 126, 2) := by decide +kernel
theorem dX2_append_9 : decode cX2_append 9 = .ok (.if_icmp .le 6, 3) := by decide +kernel
theorem dX2_append_12 : decode cX2_append 12 = .ok (.ldc 34, 2) := by decide +kernel
theorem dX2_append_14 : decode cX2_append 14 = .ok (.ireturn, 1) := by decide +kernel
theorem dX2_append_15 : decode cX2_append 15 = .ok (.aload_n 0, 1) := by decide +kernel
theorem dX2_append_16 : decode cX2_append 16 = .ok (.getfield 18, 3) := by decide +kernel
theorem dX2_append_19 : decode cX2_append 19 = .ok (.bipush 60, 2) := by decide +kernel
theorem dX2_append_21 : decode cX2_append 21 = .ok (.if_icmp .lt 6, 3) := by decide +kernel
theorem dX2_append_24 : decode cX2_append 24 = .ok (.ldc 35, 2) := by decide +kernel
theorem dX2_append_26 : decode cX2_append 26 = .ok (.ireturn, 1) := by decide +kernel
theorem dX2_append_27 : decode cX2_append 27 = .ok (.aload_n 0, 1) := by decide +kernel
theorem dX2_append_28 : decode cX2_append 28 = .ok (.getfield 9, 3) := by decide +kernel
theorem dX2_append_31 : decode cX2_append 31 = .ok (.aload_n 0, 1) := by decide +kernel
theorem dX2_append_32 : decode cX2_append 32 = .ok (.getfield 18, 3) := by decide +kernel
theorem dX2_append_35 : decode cX2_append 35 = .ok (.iload_n 1, 1) := by decide +kernel
theorem dX2_append_36 : decode cX2_append 36 = .ok (.invokestatic 36, 3) := by decide +kernel
theorem dX2_append_39 : decode cX2_append 39 = .ok (.aload_n 0, 1) := by decide +kernel
theorem dX2_append_40 : decode cX2_append 40 = .ok (.dup, 1) := by decide +kernel
theorem dX2_append_41 : decode cX2_append 41 = .ok (.getfield 18, 3) := by decide +kernel
theorem dX2_append_44 : decode cX2_append 44 = .ok (.iconst 1, 1) := by decide +kernel
theorem dX2_append_45 : decode cX2_append 45 = .ok (.iadd, 1) := by decide +kernel
theorem dX2_append_46 : decode cX2_append 46 = .ok (.putfield 18, 3) := by decide +kernel
theorem dX2_append_49 : decode cX2_append 49 = .ok (.aload_n 0, 1) := by decide +kernel
theorem dX2_append_50 : decode cX2_append 50 = .ok (.getfield 18, 3) := by decide +kernel
theorem dX2_append_53 : decode cX2_append 53 = .ok (.ireturn, 1) := by decide +kernel
theorem dX2_empty_0 : decode cX2_empty 0 = .ok (.aload_n 0, 1) := by decide +kernel
theorem dX2_empty_1 : decode cX2_empty 1 = .ok (.getfield 18, 3) := by decide +kernel
theorem dX2_empty_4 : decode cX2_empty 4 = .ok (.istore_n 1, 1) := by decide +kernel
theorem dX2_empty_5 : decode cX2_empty 5 = .ok (.aload_n 0, 1) := by decide +kernel
theorem dX2_empty_6 : decode cX2_empty 6 = .ok (.iconst 0, 1) := by decide +kernel
theorem dX2_empty_7 : decode cX2_empty 7 = .ok (.putfield 18, 3) := by decide +kernel
theorem dX2_empty_10 : decode cX2_empty 10 = .ok (.iload_n 1, 1) := by decide +kernel
theorem dX2_empty_11 : decode cX2_empty 11 = .ok (.ireturn, 1) := by decide +kernel
set_option maxRecDepth 20000 in
theorem ggX2_doAll_X2_readOrder : GoodIn wsX2_doAll wsX2_readOrder := goodIn_r _ [8, 3, 9, 10, 11, 7, 12, 2, 13, 14, 15, 16, 17, 18, 19, 20, 21, 22, 23, 24, 25, 26, 27, 28, 29, 30, 31, 32, 33, 216, 217, 218, 219, 220, 221, 222, 223] (by decide +kernel) (by decide +kernel)
set_option maxRecDepth 20000 in
theorem gX2_doAll_X2_readOrder : GoodIn wsX2_doAll (wsV RX2 40 RX2 yX2_readOrder wsX2_readOrder) := goodIn_app (goodIn_of _ (by decide +kernel)) ggX2_doAll_X2_readOrder
set_option maxRecDepth 20000 in
theorem ggX2_doAll_X2_noteFault : GoodIn wsX2_doAll wsX2_noteFault := goodIn_r _ [37, 38, 39, 40, 216, 217, 218, 219, 220, 221, 222, 223] (by decide +kernel) (by decide +kernel)
set_option maxRecDepth 20000 in
theorem gX2_doAll_X2_noteFault : GoodIn wsX2_doAll (wsV RX2 47 RX2 yX2_noteFault wsX2_noteFault) := goodIn_app (goodIn_of _ (by decide +kernel)) ggX2_doAll_X2_noteFault
set_option maxRecDepth 20000 in
theorem ggX2_doAll_X2_signAt : GoodIn wsX2_doAll wsX2_signAt := goodIn_r _ [12, 2, 13, 14, 15, 16, 216, 217, 218, 219, 220, 221, 222, 223] (by decide +kernel) (by decide +kernel)
set_option maxRecDepth 20000 in
theorem gX2_doAll_X2_signAt : GoodIn wsX2_doAll (wsV RX2 51 RX2 yX2_signAt wsX2_signAt) := goodIn_app (goodIn_of _ (by decide +kernel)) ggX2_doAll_X2_signAt
set_option maxRecDepth 20000 in
theorem ggX2_doAll_X2_doOrder : GoodIn wsX2_doAll wsX2_doOrder := goodIn_r _ [44, 28, 14, 15, 16, 45, 46, 47, 48, 49, 50, 51, 52, 53, 54, 55, 56, 57, 58, 59, 60, 61, 62, 63, 64, 65, 66, 67, 68, 69, 70, 71, 72, 73, 74, 75, 76, 77, 78, 79, 80, 81, 82, 83, 84, 85, 86, 87, 88, 89, 90, 91, 92, 93, 94, 95, 96, 97, 98, 32, 33, 99, 100, 101, 102, 103, 104, 105, 106, 107, 108, 109, 110, 111, 112, 113, 114, 115, 116, 117, 118, 119, 120, 121, 122, 123, 124, 125, 126, 127, 128, 129, 130, 131, 132, 133, 134, 135, 136, 137, 138, 139, 140, 141, 142, 143, 144, 145, 146, 147, 148, 149, 150, 151, 152, 153, 154, 155, 156, 157, 158, 159, 160, 161, 162, 163, 164, 165, 166, 167, 168, 169, 170, 171, 172, 173, 174, 175, 176, 177, 178, 179, 180, 181, 182, 183, 184, 185, 186, 187, 188, 189, 190, 191, 192, 193, 194, 195, 196, 197, 198, 199, 200, 201, 202, 203, 204, 205, 206, 207, 208, 209, 210, 211, 212, 213, 214, 215, 216, 217, 218, 219, 220, 221, 222, 223, 224, 225, 226, 227, 228, 229, 230, 231, 232, 233, 234, 235, 236, 237, 238, 239, 240, 241] (by decide +kernel) (by decide +kernel)
set_option maxRecDepth 20000 in
theorem gX2_doAll_X2_doOrder : GoodIn wsX2_doAll (wsV RX2 55 RX2 yX2_doOrder wsX2_doOrder) := goodIn_app (goodIn_of _ (by decide +kernel)) ggX2_doAll_X2_doOrder
theorem dX2_doAll_0 : decode cX2_doAll 0 = .ok (.aload_n 0, 1) := by decide +kernel
theorem dX2_doAll_1 : decode cX2_doAll 1 = .ok (.iconst 0, 1) := by decide +kernel
theorem dX2_doAll_2 : decode cX2_doAll 2 = .ok (.putfield 22, 3) := by decide +kernel
theorem dX2_doAll_5 : decode cX2_doAll 5 = .ok (.iconst 0, 1) := by decide +kernel
theorem dX2_doAll_6 : decode cX2_doAll 6 = .ok (.istore_n 3, 1) := by decide +kernel
theorem dX2_doAll_7 : decode cX2_doAll 7 = .ok (.iconst 0, 1) := by decide +kernel
theorem dX2_doAll_8 : decode cX2_doAll 8 = .ok (.istore 4, 2) := by decide +kernel
theorem dX2_doAll_10 : decode cX2_doAll 10 = .ok (.iload 4, 2) := by decide +kernel
theorem dX2_doAll_12 : decode cX2_doAll 12 = .ok (.bipush 60, 2) := by decide +kernel
theorem dX2_doAll_14 : decode cX2_doAll 14 = .ok (.if_icmp .ge 80, 3) := by decide +kernel
theorem dX2_doAll_17 : decode cX2_doAll 17 = .ok (.iload_n 3, 1) := by decide +kernel
theorem dX2_doAll_18 : decode cX2_doAll 18 = .ok (.aload_n 0, 1) := by decide +kernel
theorem dX2_doAll_19 : decode cX2_doAll 19 = .ok (.getfield 18, 3) := by decide +kernel
theorem dX2_doAll_22 : decode cX2_doAll 22 = .ok (.if_icmp .ge 72, 3) := by decide +kernel
theorem dX2_doAll_25 : decode cX2_doAll 25 = .ok (.aload_n 0, 1) := by decide +kernel
theorem dX2_doAll_26 : decode cX2_doAll 26 = .ok (.iload_n 3, 1) := by decide +kernel
theorem dX2_doAll_27 : decode cX2_doAll 27 = .ok (.invokevirtual 40, 3) := by decide +kernel
theorem dX2_doAll_30 : decode cX2_doAll 30 = .ok (.ifCond .ne 16, 3) := by decide +kernel
theorem dX2_doAll_33 : decode cX2_doAll 33 = .ok (.aload_n 0, 1) := by decide +kernel
theorem dX2_doAll_34 : decode cX2_doAll 34 = .ok (.iload_n 3, 1) := by decide +kernel
theorem dX2_doAll_35 : decode cX2_doAll 35 = .ok (.iconst 1, 1) := by decide +kernel
theorem dX2_doAll_36 : decode cX2_doAll 36 = .ok (.aload_n 0, 1) := by decide +kernel
theorem dX2_doAll_37 : decode cX2_doAll 37 = .ok (.getfield 44, 3) := by decide +kernel
theorem dX2_doAll_40 : decode cX2_doAll 40 = .ok (.iload_n 3, 1) := by decide +kernel
theorem dX2_doAll_41 : decode cX2_doAll 41 = .ok (.isub, 1) := by decide +kernel
theorem dX2_doAll_42 : decode cX2_doAll 42 = .ok (.invokevirtual 47, 3) := by decide +kernel
theorem dX2_doAll_45 : decode cX2_doAll 45 = .ok (.ireturn, 1) := by decide +kernel
theorem dX2_doAll_46 : decode cX2_doAll 46 = .ok (.aload_n 0, 1) := by decide +kernel
theorem dX2_doAll_47 : decode cX2_doAll 47 = .ok (.aload_n 1, 1) := by decide +kernel
theorem dX2_doAll_48 : decode cX2_doAll 48 = .ok (.aload_n 2, 1) := by decide +kernel
theorem dX2_doAll_49 : decode cX2_doAll 49 = .ok (.aload_n 0, 1) := by decide +kernel
theorem dX2_doAll_50 : decode cX2_doAll 50 = .ok (.iload_n 3, 1) := by decide +kernel
theorem dX2_doAll_51 : decode cX2_doAll 51 = .ok (.invokevirtual 51, 3) := by decide +kernel
theorem dX2_doAll_54 : decode cX2_doAll 54 = .ok (.invokevirtual 55, 3) := by decide +kernel
theorem dX2_doAll_57 : decode cX2_doAll 57 = .ok (.istore 5, 2) := by decide +kernel
theorem dX2_doAll_59 : decode cX2_doAll 59 = .ok (.iload 5, 2) := by decide +kernel
theorem dX2_doAll_61 : decode cX2_doAll 61 = .ok (.ifCond .ge 12, 3) := by decide +kernel
theorem dX2_doAll_64 : decode cX2_doAll 64 = .ok (.aload_n 0, 1) := by decide +kernel
theorem dX2_doAll_65 : decode cX2_doAll 65 = .ok (.iload_n 3, 1) := by decide +kernel
theorem dX2_doAll_66 : decode cX2_doAll 66 = .ok (.iconst 2, 1) := by decide +kernel
theorem dX2_doAll_67 : decode cX2_doAll 67 = .ok (.iload 5, 2) := by decide +kernel
theorem dX2_doAll_69 : decode cX2_doAll 69 = .ok (.invokevirtual 47, 3) := by decide +kernel
theorem dX2_doAll_72 : decode cX2_doAll 72 = .ok (.ireturn, 1) := by decide +kernel
theorem dX2_doAll_73 : decode cX2_doAll 73 = .ok (.aload_n 0, 1) := by decide +kernel
theorem dX2_doAll_74 : decode cX2_doAll 74 = .ok (.dup, 1) := by decide +kernel
theorem dX2_doAll_75 : decode cX2_doAll 75 = .ok (.getfield 22, 3) := by decide +kernel
theorem dX2_doAll_78 : decode cX2_doAll 78 = .ok (.iconst 1, 1) := by decide +kernel
theorem dX2_doAll_79 : decode cX2_doAll 79 = .ok (.iadd, 1) := by decide +kernel
theorem dX2_doAll_80 : decode cX2_doAll 80 = .ok (.putfield 22, 3) := by decide +kernel
theorem dX2_doAll_83 : decode cX2_doAll 83 = .ok (.aload_n 0, 1) := by decide +kernel
theorem dX2_doAll_84 : decode cX2_doAll 84 = .ok (.getfield 44, 3) := by decide +kernel
theorem dX2_doAll_87 : decode cX2_doAll 87 = .ok (.istore_n 3, 1) := by decide +kernel
theorem dX2_doAll_88 : decode cX2_doAll 88 = .ok (.iinc 4 1, 3) := by decide +kernel
theorem dX2_doAll_91 : decode cX2_doAll 91 = .ok (.goto (-81), 3) := by decide +kernel
theorem dX2_doAll_94 : decode cX2_doAll 94 = .ok (.iconst 1, 1) := by decide +kernel
theorem dX2_doAll_95 : decode cX2_doAll 95 = .ok (.ireturn, 1) := by decide +kernel
theorem dX2_noteFault_0 : decode cX2_noteFault 0 = .ok (.aload_n 0, 1) := by decide +kernel
theorem dX2_noteFault_1 : decode cX2_noteFault 1 = .ok (.iload_n 1, 1) := by decide +kernel
theorem dX2_noteFault_2 : decode cX2_noteFault 2 = .ok (.putfield 25, 3) := by decide +kernel
theorem dX2_noteFault_5 : decode cX2_noteFault 5 = .ok (.aload_n 0, 1) := by decide +kernel
theorem dX2_noteFault_6 : decode cX2_noteFault 6 = .ok (.iload_n 2, 1) := by decide +kernel
theorem dX2_noteFault_7 : decode cX2_noteFault 7 = .ok (.putfield 28, 3) := by decide +kernel
theorem dX2_noteFault_10 : decode cX2_noteFault 10 = .ok (.aload_n 0, 1) := by decide +kernel
theorem dX2_noteFault_11 : decode cX2_noteFault 11 = .ok (.iload_n 3, 1) := by decide +kernel
theorem dX2_noteFault_12 : decode cX2_noteFault 12 = .ok (.putfield 31, 3) := by decide +kernel
theorem dX2_noteFault_15 : decode cX2_noteFault 15 = .ok (.iconst 0, 1) := by decide +kernel
theorem dX2_noteFault_16 : decode cX2_noteFault 16 = .ok (.ireturn, 1) := by decide +kernel
set_option maxRecDepth 20000 in
theorem ggX2_doOrder_X4_at : GoodIn wsX2_doOrder wsX4_at := goodIn_r _ [4] (by decide +kernel) (by decide +kernel)
set_option maxRecDepth 20000 in
theorem gX2_doOrder_X4_at_n59 : GoodIn wsX2_doOrder (wsX4_at) := ggX2_doOrder_X4_at
set_option maxRecDepth 20000 in
theorem ggX2_doOrder_X0_lendFavours : GoodIn wsX2_doOrder wsX0_lendFavours := goodIn_r _ [9, 10, 11, 12, 13, 14, 15, 16, 17, 8, 18, 19, 20, 21, 22, 23, 24, 25, 26, 27, 3, 28, 29, 30, 31, 32, 33, 34, 35, 36, 37, 38, 39, 40, 41, 42, 43, 44, 45, 46, 47, 2, 4, 48, 49, 50, 51, 52, 53, 54, 55, 56, 57, 58, 59, 60, 61, 62, 186, 187, 188, 189, 190, 191, 192, 193, 194, 195, 196, 197, 198] (by decide +kernel) (by decide +kernel)
set_option maxRecDepth 20000 in
theorem gX2_doOrder_X0_lendFavours : GoodIn wsX2_doOrder (wsV RX2 63 RX0 yX0_lendFavours wsX0_lendFavours) := goodIn_app (goodIn_of _ (by decide +kernel)) ggX2_doOrder_X0_lendFavours
set_option maxRecDepth 20000 in
theorem ggX2_doOrder_X0_fulfilFavours : GoodIn wsX2_doOrder wsX0_fulfilFavours := goodIn_r _ [66, 10, 11, 13, 67, 14, 15, 16, 17, 8, 18, 19, 20, 21, 22, 23, 24, 25, 26, 27, 3, 28, 29, 30, 36, 37, 38, 39, 40, 41, 42, 43, 44, 45, 46, 47, 2, 4, 68, 69, 70, 71, 72, 73, 74, 75, 76, 77, 78, 79, 57, 61, 62, 80, 81, 82, 83, 58, 59, 60, 186, 187, 188, 189, 190, 191, 192, 193, 194, 195, 196, 197, 198] (by decide +kernel) (by decide +kernel)
set_option maxRecDepth 20000 in
theorem gX2_doOrder_X0_fulfilFavours : GoodIn wsX2_doOrder (wsV RX2 69 RX0 yX0_fulfilFavours wsX0_fulfilFavours) := goodIn_app (goodIn_of _ (by decide +kernel)) ggX2_doOrder_X0_fulfilFavours
set_option maxRecDepth 20000 in
theorem ggX2_doOrder_X0_giveGuarantor : GoodIn wsX2_doOrder wsX0_giveGuarantor := goodIn_r _ [87, 10, 52, 19, 20, 21, 8, 22, 23, 24, 25, 26, 14, 15, 16, 17, 18, 2, 3, 4, 59, 60, 186, 187, 188, 189, 190, 191, 192, 193, 194, 195, 196, 197, 198] (by decide +kernel) (by decide +kernel)
set_option maxRecDepth 20000 in
theorem gX2_doOrder_X0_giveGuarantor : GoodIn wsX2_doOrder (wsV RX2 72 RX0 yX0_giveGuarantor wsX0_giveGuarantor) := goodIn_app (goodIn_of _ (by decide +kernel)) ggX2_doOrder_X0_giveGuarantor
set_option maxRecDepth 20000 in
theorem ggX2_doOrder_X3_clearKind : GoodIn wsX2_doOrder wsX3_clearKind := goodIn_r _ [92, 93, 94, 27, 3, 28, 95, 96, 97, 91, 98, 99, 100, 101, 102, 103, 104, 105, 24, 25, 8, 26, 14, 106, 42, 43, 44, 45, 46, 47, 2, 4, 61, 62, 107, 108, 109, 110, 111, 112, 59, 60, 113, 114, 115, 116, 117, 118, 119, 120, 121, 122, 123, 124, 125, 126, 127, 128, 129, 130, 131, 132, 133, 73, 74, 75, 134, 135, 136, 137, 138, 69, 70, 71, 40, 72, 76, 77, 78, 79, 57, 23, 41, 80, 81, 82, 83, 58, 139, 140, 141, 142, 143, 144, 145, 146, 147, 199, 200, 201, 202, 203, 186, 187, 188, 189, 190, 191, 192, 193, 194, 195, 196, 197, 198] (by decide +kernel) (by decide +kernel)
set_option maxRecDepth 20000 in
theorem gX2_doOrder_X3_clearKind : GoodIn wsX2_doOrder (wsV RX2 76 RX3 yX3_clearKind wsX3_clearKind) := goodIn_app (goodIn_of _ (by decide +kernel)) ggX2_doOrder_X3_clearKind
set_option maxRecDepth 20000 in
theorem ggX2_doOrder_X0_endWeeks : GoodIn wsX2_doOrder wsX0_endWeeks := goodIn_r _ [151, 10, 12, 23, 24, 25, 8, 26, 14, 152, 153, 154, 155, 57, 61, 3, 62, 156, 157, 158, 159, 160, 161, 162, 163, 47, 2, 4, 164, 165, 166, 167, 45, 46, 58, 40, 13, 168, 48, 49, 50, 51, 52, 59, 60, 169, 170, 171, 172, 35, 80, 81, 82, 83, 186, 187, 188, 189, 190, 191, 192, 193, 194, 195, 196, 197, 198] (by decide +kernel) (by decide +kernel)
set_option maxRecDepth 20000 in
theorem gX2_doOrder_X0_endWeeks : GoodIn wsX2_doOrder (wsV RX2 82 RX0 yX0_endWeeks wsX0_endWeeks) := goodIn_app (goodIn_of _ (by decide +kernel)) ggX2_doOrder_X0_endWeeks
set_option maxRecDepth 20000 in
theorem ggX2_doOrder_X0_hasHolidays : GoodIn wsX2_doOrder wsX0_hasHolidays := goodIn_r _ [159, 23, 24, 25, 8, 26, 14, 186, 187, 188, 189, 190, 191, 192, 193, 194, 195, 196, 197, 198] (by decide +kernel) (by decide +kernel)
set_option maxRecDepth 20000 in
theorem gX2_doOrder_X0_hasHolidays : GoodIn wsX2_doOrder (wsV RX2 85 RX0 yX0_hasHolidays wsX0_hasHolidays) := goodIn_app (goodIn_of _ (by decide +kernel)) ggX2_doOrder_X0_hasHolidays
set_option maxRecDepth 20000 in
theorem ggX2_doOrder_X0_turnHolidays : GoodIn wsX2_doOrder wsX0_turnHolidays := goodIn_r _ [177, 14, 23, 24, 25, 8, 26, 59, 3, 60, 186, 187, 188, 189, 190, 191, 192, 193, 194, 195, 196, 197, 198] (by decide +kernel) (by decide +kernel)
set_option maxRecDepth 20000 in
theorem gX2_doOrder_X0_turnHolidays : GoodIn wsX2_doOrder (wsV RX2 89 RX0 yX0_turnHolidays wsX0_turnHolidays) := goodIn_app (goodIn_of _ (by decide +kernel)) ggX2_doOrder_X0_turnHolidays
theorem dX2_doOrder_0 : decode cX2_doOrder 0 = .ok (.aload_n 0, 1) := by decide +kernel
theorem dX2_doOrder_1 : decode cX2_doOrder 1 = .ok (.getfield 15, 3) := by decide +kernel
theorem dX2_doOrder_4 : decode cX2_doOrder 4 = .ok (.iconst 0, 1) := by decide +kernel
theorem dX2_doOrder_5 : decode cX2_doOrder 5 = .ok (.invokestatic 59, 3) := by decide +kernel
theorem dX2_doOrder_8 : decode cX2_doOrder 8 = .ok (.istore 4, 2) := by decide +kernel
theorem dX2_doOrder_10 : decode cX2_doOrder 10 = .ok (.aload_n 0, 1) := by decide +kernel
theorem dX2_doOrder_11 : decode cX2_doOrder 11 = .ok (.getfield 15, 3) := by decide +kernel
theorem dX2_doOrder_14 : decode cX2_doOrder 14 = .ok (.iconst 1, 1) := by decide +kernel
theorem dX2_doOrder_15 : decode cX2_doOrder 15 = .ok (.invokestatic 59, 3) := by decide +kernel
theorem dX2_doOrder_18 : decode cX2_doOrder 18 = .ok (.istore 5, 2) := by decide +kernel
theorem dX2_doOrder_20 : decode cX2_doOrder 20 = .ok (.iload_n 3, 1) := by decide +kernel
theorem dX2_doOrder_21 : decode cX2_doOrder 21 = .ok (.lookupswitch 125 #[(99, 110), (100, 76), (103, 101), (111, 51), (119, 118)], 51) := by decide +kernel
theorem dX2_doOrder_72 : decode cX2_doOrder 72 = .ok (.aload_n 1, 1) := by decide +kernel
theorem dX2_doOrder_73 : decode cX2_doOrder 73 = .ok (.iload 4, 2) := by decide +kernel
theorem dX2_doOrder_75 : decode cX2_doOrder 75 = .ok (.iload 5, 2) := by decide +kernel
theorem dX2_doOrder_77 : decode cX2_doOrder 77 = .ok (.aload_n 0, 1) := by decide +kernel
theorem dX2_doOrder_78 : decode cX2_doOrder 78 = .ok (.getfield 15, 3) := by decide +kernel
theorem dX2_doOrder_81 : decode cX2_doOrder 81 = .ok (.iconst 2, 1) := by decide +kernel
theorem dX2_doOrder_82 : decode cX2_doOrder 82 = .ok (.invokestatic 59, 3) := by decide +kernel
theorem dX2_doOrder_85 : decode cX2_doOrder 85 = .ok (.aload_n 0, 1) := by decide +kernel
theorem dX2_doOrder_86 : decode cX2_doOrder 86 = .ok (.getfield 15, 3) := by decide +kernel
theorem dX2_doOrder_89 : decode cX2_doOrder 89 = .ok (.iconst 3, 1) := by decide +kernel
theorem dX2_doOrder_90 : decode cX2_doOrder 90 = .ok (.invokestatic 59, 3) := by decide +kernel
theorem dX2_doOrder_93 : decode cX2_doOrder 93 = .ok (.invokevirtual 63, 3) := by decide +kernel
theorem dX2_doOrder_96 : decode cX2_doOrder 96 = .ok (.ireturn, 1) := by decide +kernel
theorem dX2_doOrder_97 : decode cX2_doOrder 97 = .ok (.aload_n 1, 1) := by decide +kernel
theorem dX2_doOrder_98 : decode cX2_doOrder 98 = .ok (.iload 4, 2) := by decide +kernel
theorem dX2_doOrder_100 : decode cX2_doOrder 100 = .ok (.iload 5, 2) := by decide +kernel
theorem dX2_doOrder_102 : decode cX2_doOrder 102 = .ok (.aload_n 0, 1) := by decide +kernel
theorem dX2_doOrder_103 : decode cX2_doOrder 103 = .ok (.getfield 15, 3) := by decide +kernel
theorem dX2_doOrder_106 : decode cX2_doOrder 106 = .ok (.iconst 2, 1) := by decide +kernel
theorem dX2_doOrder_107 : decode cX2_doOrder 107 = .ok (.invokestatic 59, 3) := by decide +kernel
theorem dX2_doOrder_110 : decode cX2_doOrder 110 = .ok (.aload_n 0, 1) := by decide +kernel
theorem dX2_doOrder_111 : decode cX2_doOrder 111 = .ok (.getfield 15, 3) := by decide +kernel
theorem dX2_doOrder_114 : decode cX2_doOrder 114 = .ok (.iconst 3, 1) := by decide +kernel
theorem dX2_doOrder_115 : decode cX2_doOrder 115 = .ok (.invokestatic 59, 3) := by decide +kernel
theorem dX2_doOrder_118 : decode cX2_doOrder 118 = .ok (.invokevirtual 69, 3) := by decide +kernel
theorem dX2_doOrder_121 : decode cX2_doOrder 121 = .ok (.ireturn, 1) := by decide +kernel
theorem dX2_doOrder_122 : decode cX2_doOrder 122 = .ok (.aload_n 1, 1) := by decide +kernel
theorem dX2_doOrder_123 : decode cX2_doOrder 123 = .ok (.iload 4, 2) := by decide +kernel
theorem dX2_doOrder_125 : decode cX2_doOrder 125 = .ok (.iload 5, 2) := by decide +kernel
theorem dX2_doOrder_127 : decode cX2_doOrder 127 = .ok (.invokevirtual 72, 3) := by decide +kernel
theorem dX2_doOrder_130 : decode cX2_doOrder 130 = .ok (.ireturn, 1) := by decide +kernel
theorem dX2_doOrder_131 : decode cX2_doOrder 131 = .ok (.aload_n 2, 1) := by decide +kernel
theorem dX2_doOrder_132 : decode cX2_doOrder 132 = .ok (.aload_n 1, 1) := by decide +kernel
theorem dX2_doOrder_133 : decode cX2_doOrder 133 = .ok (.iload 4, 2) := by decide +kernel
theorem dX2_doOrder_135 : decode cX2_doOrder 135 = .ok (.invokevirtual 76, 3) := by decide +kernel
theorem dX2_doOrder_138 : decode cX2_doOrder 138 = .ok (.ireturn, 1) := by decide +kernel
theorem dX2_doOrder_139 : decode cX2_doOrder 139 = .ok (.aload_n 1, 1) := by decide +kernel
theorem dX2_doOrder_140 : decode cX2_doOrder 140 = .ok (.iload 4, 2) := by decide +kernel
theorem dX2_doOrder_142 : decode cX2_doOrder 142 = .ok (.invokevirtual 82, 3) := by decide +kernel
theorem dX2_doOrder_145 : decode cX2_doOrder 145 = .ok (.ireturn, 1) := by decide +kernel
theorem dX2_doOrder_146 : decode cX2_doOrder 146 = .ok (.aload_n 1, 1) := by decide +kernel
theorem dX2_doOrder_147 : decode cX2_doOrder 147 = .ok (.aload_n 1, 1) := by decide +kernel
theorem dX2_doOrder_148 : decode cX2_doOrder 148 = .ok (.invokevirtual 85, 3) := by decide +kernel
theorem dX2_doOrder_151 : decode cX2_doOrder 151 = .ok (.ifCond .ne 7, 3) := by decide +kernel
theorem dX2_doOrder_154 : decode cX2_doOrder 154 = .ok (.iconst 1, 1) := by decide +kernel
theorem dX2_doOrder_155 : decode cX2_doOrder 155 = .ok (.goto 4, 3) := by decide +kernel
theorem dX2_doOrder_158 : decode cX2_doOrder 158 = .ok (.iconst 0, 1) := by decide +kernel
theorem dX2_doOrder_159 : decode cX2_doOrder 159 = .ok (.invokevirtual 89, 3) := by decide +kernel
theorem dX2_doOrder_162 : decode cX2_doOrder 162 = .ok (.ireturn, 1) := by decide +kernel
set_option maxRecDepth 20000 in
theorem ggX2_readOrder_X2_signAt : GoodIn wsX2_readOrder wsX2_signAt := goodIn_r _ [6, 7, 8, 9, 10, 11, 29, 30, 31, 32, 33, 34, 35, 36] (by decide +kernel) (by decide +kernel)
set_option maxRecDepth 20000 in
theorem gX2_readOrder_X2_signAt : GoodIn wsX2_readOrder (wsV RX2 51 RX2 yX2_signAt wsX2_signAt) := goodIn_app (goodIn_of _ (by decide +kernel)) ggX2_readOrder_X2_signAt
set_option maxRecDepth 20000 in
theorem ggX2_readOrder_X2_numbersAfter : GoodIn wsX2_readOrder wsX2_numbersAfter := goodIn_r _ [14] (by decide +kernel) (by decide +kernel)
set_option maxRecDepth 20000 in
theorem gX2_readOrder_X2_numbersAfter : GoodIn wsX2_readOrder (va_wsS RX2 93 yX2_numbersAfter wsX2_numbersAfter) := goodIn_app (goodIn_of _ (by decide +kernel)) ggX2_readOrder_X2_numbersAfter
set_option maxRecDepth 20000 in
theorem ggX2_readOrder_X2_passSign : GoodIn wsX2_readOrder wsX2_passSign := goodIn_r _ [18, 1, 2, 3, 4, 5, 6, 7, 8, 9, 10, 11, 29, 30, 31, 32, 33, 34, 35, 36] (by decide +kernel) (by decide +kernel)
set_option maxRecDepth 20000 in
theorem gX2_readOrder_X2_passSign : GoodIn wsX2_readOrder (wsV RX2 96 RX2 yX2_passSign wsX2_passSign) := goodIn_app (goodIn_of _ (by decide +kernel)) ggX2_readOrder_X2_passSign
set_option maxRecDepth 20000 in
theorem ggX2_readOrder_X2_readNumber : GoodIn wsX2_readOrder wsX2_readNumber := goodIn_r _ [22, 1, 23, 2, 3, 4, 5, 6, 7, 8, 9, 10, 11, 24, 25, 26, 27, 28, 29, 30, 31, 32, 33, 34, 35, 36] (by decide +kernel) (by decide +kernel)
set_option maxRecDepth 20000 in
theorem gX2_readOrder_X2_readNumber : GoodIn wsX2_readOrder (wsV RX2 99 RX2 yX2_readNumber wsX2_readNumber) := goodIn_app (goodIn_of _ (by decide +kernel)) ggX2_readOrder_X2_readNumber
theorem dX2_readOrder_0 : decode cX2_readOrder 0 = .ok (.aload_n 0, 1) := by decide +kernel
theorem dX2_readOrder_1 : decode cX2_readOrder 1 = .ok (.iload_n 1, 1) := by decide +kernel
theorem dX2_readOrder_2 : decode cX2_readOrder 2 = .ok (.putfield 44, 3) := by decide +kernel
theorem dX2_readOrder_5 : decode cX2_readOrder 5 = .ok (.aload_n 0, 1) := by decide +kernel
theorem dX2_readOrder_6 : decode cX2_readOrder 6 = .ok (.iload_n 1, 1) := by decide +kernel
theorem dX2_readOrder_7 : decode cX2_readOrder 7 = .ok (.invokevirtual 51, 3) := by decide +kernel
theorem dX2_readOrder_10 : decode cX2_readOrder 10 = .ok (.invokestatic 93, 3) := by decide +kernel
theorem dX2_readOrder_13 : decode cX2_readOrder 13 = .ok (.istore_n 2, 1) := by decide +kernel
theorem dX2_readOrder_14 : decode cX2_readOrder 14 = .ok (.iload_n 2, 1) := by decide +kernel
theorem dX2_readOrder_15 : decode cX2_readOrder 15 = .ok (.ifCond .ge 5, 3) := by decide +kernel
theorem dX2_readOrder_18 : decode cX2_readOrder 18 = .ok (.iconst 0, 1) := by decide +kernel
theorem dX2_readOrder_19 : decode cX2_readOrder 19 = .ok (.ireturn, 1) := by decide +kernel
theorem dX2_readOrder_20 : decode cX2_readOrder 20 = .ok (.aload_n 0, 1) := by decide +kernel
theorem dX2_readOrder_21 : decode cX2_readOrder 21 = .ok (.dup, 1) := by decide +kernel
theorem dX2_readOrder_22 : decode cX2_readOrder 22 = .ok (.getfield 44, 3) := by decide +kernel
theorem dX2_readOrder_25 : decode cX2_readOrder 25 = .ok (.iconst 1, 1) := by decide +kernel
theorem dX2_readOrder_26 : decode cX2_readOrder 26 = .ok (.iadd, 1) := by decide +kernel
theorem dX2_readOrder_27 : decode cX2_readOrder 27 = .ok (.putfield 44, 3) := by decide +kernel
theorem dX2_readOrder_30 : decode cX2_readOrder 30 = .ok (.iconst 0, 1) := by decide +kernel
theorem dX2_readOrder_31 : decode cX2_readOrder 31 = .ok (.istore_n 3, 1) := by decide +kernel
theorem dX2_readOrder_32 : decode cX2_readOrder 32 = .ok (.iload_n 3, 1) := by decide +kernel
theorem dX2_readOrder_33 : decode cX2_readOrder 33 = .ok (.iload_n 2, 1) := by decide +kernel
theorem dX2_readOrder_34 : decode cX2_readOrder 34 = .ok (.if_icmp .ge 32, 3) := by decide +kernel
theorem dX2_readOrder_37 : decode cX2_readOrder 37 = .ok (.iload_n 3, 1) := by decide +kernel
theorem dX2_readOrder_38 : decode cX2_readOrder 38 = .ok (.ifCond .le 12, 3) := by decide +kernel
theorem dX2_readOrder_41 : decode cX2_readOrder 41 = .ok (.aload_n 0, 1) := by decide +kernel
theorem dX2_readOrder_42 : decode cX2_readOrder 42 = .ok (.bipush 44, 2) := by decide +kernel
theorem dX2_readOrder_44 : decode cX2_readOrder 44 = .ok (.invokevirtual 96, 3) := by decide +kernel
theorem dX2_readOrder_47 : decode cX2_readOrder 47 = .ok (.ifCond .eq 11, 3) := by decide +kernel
theorem dX2_readOrder_50 : decode cX2_readOrder 50 = .ok (.aload_n 0, 1) := by decide +kernel
theorem dX2_readOrder_51 : decode cX2_readOrder 51 = .ok (.iload_n 3, 1) := by decide +kernel
theorem dX2_readOrder_52 : decode cX2_readOrder 52 = .ok (.invokevirtual 99, 3) := by decide +kernel
theorem dX2_readOrder_55 : decode cX2_readOrder 55 = .ok (.ifCond .ne 5, 3) := by decide +kernel
theorem dX2_readOrder_58 : decode cX2_readOrder 58 = .ok (.iconst 0, 1) := by decide +kernel
theorem dX2_readOrder_59 : decode cX2_readOrder 59 = .ok (.ireturn, 1) := by decide +kernel
theorem dX2_readOrder_60 : decode cX2_readOrder 60 = .ok (.iinc 3 1, 3) := by decide +kernel
theorem dX2_readOrder_63 : decode cX2_readOrder 63 = .ok (.goto (-31), 3) := by decide +kernel
theorem dX2_readOrder_66 : decode cX2_readOrder 66 = .ok (.aload_n 0, 1) := by decide +kernel
theorem dX2_readOrder_67 : decode cX2_readOrder 67 = .ok (.bipush 59, 2) := by decide +kernel
theorem dX2_readOrder_69 : decode cX2_readOrder 69 = .ok (.invokevirtual 96, 3) := by decide +kernel
theorem dX2_readOrder_72 : decode cX2_readOrder 72 = .ok (.ireturn, 1) := by decide +kernel
theorem dX2_numbersAfter_0 : decode cX2_numbersAfter 0 = .ok (.iload_n 0, 1) := by decide +kernel
theorem dX2_numbersAfter_1 : decode cX2_numbersAfter 1 = .ok (.lookupswitch 67 #[(99, 63), (100, 59), (103, 61), (104, 65), (111, 59), (119, 63)], 59) := by decide +kernel
theorem dX2_numbersAfter_60 : decode cX2_numbersAfter 60 = .ok (.iconst 4, 1) := by decide +kernel
theorem dX2_numbersAfter_61 : decode cX2_numbersAfter 61 = .ok (.ireturn, 1) := by decide +kernel
theorem dX2_numbersAfter_62 : decode cX2_numbersAfter 62 = .ok (.iconst 2, 1) := by decide +kernel
theorem dX2_numbersAfter_63 : decode cX2_numbersAfter 63 = .ok (.ireturn, 1) := by decide +kernel
theorem dX2_numbersAfter_64 : decode cX2_numbersAfter 64 = .ok (.iconst 1, 1) := by decide +kernel
theorem dX2_numbersAfter_65 : decode cX2_numbersAfter 65 = .ok (.ireturn, 1) := by decide +kernel
theorem dX2_numbersAfter_66 : decode cX2_numbersAfter 66 = .ok (.iconst 0, 1) := by decide +kernel
theorem dX2_numbersAfter_67 : decode cX2_numbersAfter 67 = .ok (.ireturn, 1) := by decide +kernel
theorem dX2_numbersAfter_68 : decode cX2_numbersAfter 68 = .ok (.iconst (-1), 1) := by decide +kernel
theorem dX2_numbersAfter_69 : decode cX2_numbersAfter 69 = .ok (.ireturn, 1) := by decide +kernel
set_option maxRecDepth 20000 in
theorem ggX2_readNumber_X2_signAt : GoodIn wsX2_readNumber wsX2_signAt := goodIn_r _ [7, 8, 9, 10, 11, 12, 18, 19, 20, 21, 22, 23, 24, 25] (by decide +kernel) (by decide +kernel)
set_option maxRecDepth 20000 in
theorem gX2_readNumber_X2_signAt : GoodIn wsX2_readNumber (wsV RX2 51 RX2 yX2_signAt wsX2_signAt) := goodIn_app (goodIn_of _ (by decide +kernel)) ggX2_readNumber_X2_signAt
set_option maxRecDepth 20000 in
theorem ggX2_readNumber_X2_isDigit : GoodIn wsX2_readNumber wsX2_isDigit := goodIn_r _ [15] (by decide +kernel) (by decide +kernel)
set_option maxRecDepth 20000 in
theorem gX2_readNumber_X2_isDigit : GoodIn wsX2_readNumber (va_wsS RX2 102 yX2_isDigit wsX2_isDigit) := goodIn_app (goodIn_of _ (by decide +kernel)) ggX2_readNumber_X2_isDigit
set_option maxRecDepth 20000 in
theorem ggX2_readNumber_X4_put : GoodIn wsX2_readNumber wsX4_put := goodIn_r _ [17] (by decide +kernel) (by decide +kernel)
set_option maxRecDepth 20000 in
theorem gX2_readNumber_X4_put_n36 : GoodIn wsX2_readNumber (wsX4_put) := ggX2_readNumber_X4_put
theorem dX2_readNumber_0 : decode cX2_readNumber 0 = .ok (.iconst 0, 1) := by decide +kernel
theorem dX2_readNumber_1 : decode cX2_readNumber 1 = .ok (.istore_n 2, 1) := by decide +kernel
theorem dX2_readNumber_2 : decode cX2_readNumber 2 = .ok (.iconst 0, 1) := by decide +kernel
theorem dX2_readNumber_3 : decode cX2_readNumber 3 = .ok (.istore_n 3, 1) := by decide +kernel
theorem dX2_readNumber_4 : decode cX2_readNumber 4 = .ok (.iload_n 2, 1) := by decide +kernel
theorem dX2_readNumber_5 : decode cX2_readNumber 5 = .ok (.iconst 2, 1) := by decide +kernel
theorem dX2_readNumber_6 : decode cX2_readNumber 6 = .ok (.if_icmp .ge 50, 3) := by decide +kernel
theorem dX2_readNumber_9 : decode cX2_readNumber 9 = .ok (.aload_n 0, 1) := by decide +kernel
theorem dX2_readNumber_10 : decode cX2_readNumber 10 = .ok (.aload_n 0, 1) := by decide +kernel
theorem dX2_readNumber_11 : decode cX2_readNumber 11 = .ok (.getfield 44, 3) := by decide +kernel
theorem dX2_readNumber_14 : decode cX2_readNumber 14 = .ok (.invokevirtual 51, 3) := by decide +kernel
theorem dX2_readNumber_17 : decode cX2_readNumber 17 = .ok (.invokestatic 102, 3) := by decide +kernel
theorem dX2_readNumber_20 : decode cX2_readNumber 20 = .ok (.ifCond .eq 36, 3) := by decide +kernel
theorem dX2_readNumber_23 : decode cX2_readNumber 23 = .ok (.iload_n 3, 1) := by decide +kernel
theorem dX2_readNumber_24 : decode cX2_readNumber 24 = .ok (.bipush 10, 2) := by decide +kernel
theorem dX2_readNumber_26 : decode cX2_readNumber 26 = .ok (.imul, 1) := by decide +kernel
theorem dX2_readNumber_27 : decode cX2_readNumber 27 = .ok (.aload_n 0, 1) := by decide +kernel
theorem dX2_readNumber_28 : decode cX2_readNumber 28 = .ok (.aload_n 0, 1) := by decide +kernel
theorem dX2_readNumber_29 : decode cX2_readNumber 29 = .ok (.getfield 44, 3) := by decide +kernel
theorem dX2_readNumber_32 : decode cX2_readNumber 32 = .ok (.invokevirtual 51, 3) := by decide +kernel
theorem dX2_readNumber_35 : decode cX2_readNumber 35 = .ok (.iadd, 1) := by decide +kernel
theorem dX2_readNumber_36 : decode cX2_readNumber 36 = .ok (.bipush 48, 2) := by decide +kernel
theorem dX2_readNumber_38 : decode cX2_readNumber 38 = .ok (.isub, 1) := by decide +kernel
theorem dX2_readNumber_39 : decode cX2_readNumber 39 = .ok (.istore_n 3, 1) := by decide +kernel
theorem dX2_readNumber_40 : decode cX2_readNumber 40 = .ok (.iinc 2 1, 3) := by decide +kernel
theorem dX2_readNumber_43 : decode cX2_readNumber 43 = .ok (.aload_n 0, 1) := by decide +kernel
theorem dX2_readNumber_44 : decode cX2_readNumber 44 = .ok (.dup, 1) := by decide +kernel
theorem dX2_readNumber_45 : decode cX2_readNumber 45 = .ok (.getfield 44, 3) := by decide +kernel
theorem dX2_readNumber_48 : decode cX2_readNumber 48 = .ok (.iconst 1, 1) := by decide +kernel
theorem dX2_readNumber_49 : decode cX2_readNumber 49 = .ok (.iadd, 1) := by decide +kernel
theorem dX2_readNumber_50 : decode cX2_readNumber 50 = .ok (.putfield 44, 3) := by decide +kernel
theorem dX2_readNumber_53 : decode cX2_readNumber 53 = .ok (.goto (-49), 3) := by decide +kernel
theorem dX2_readNumber_56 : decode cX2_readNumber 56 = .ok (.aload_n 0, 1) := by decide +kernel
theorem dX2_readNumber_57 : decode cX2_readNumber 57 = .ok (.getfield 15, 3) := by decide +kernel
theorem dX2_readNumber_60 : decode cX2_readNumber 60 = .ok (.iload_n 1, 1) := by decide +kernel
theorem dX2_readNumber_61 : decode cX2_readNumber 61 = .ok (.iload_n 3, 1) := by decide +kernel
theorem dX2_readNumber_62 : decode cX2_readNumber 62 = .ok (.invokestatic 36, 3) := by decide +kernel
theorem dX2_readNumber_65 : decode cX2_readNumber 65 = .ok (.iload_n 2, 1) := by decide +kernel
theorem dX2_readNumber_66 : decode cX2_readNumber 66 = .ok (.ifCond .le 7, 3) := by decide +kernel
theorem dX2_readNumber_69 : decode cX2_readNumber 69 = .ok (.iconst 1, 1) := by decide +kernel
theorem dX2_readNumber_70 : decode cX2_readNumber 70 = .ok (.goto 4, 3) := by decide +kernel
theorem dX2_readNumber_73 : decode cX2_readNumber 73 = .ok (.iconst 0, 1) := by decide +kernel
theorem dX2_readNumber_74 : decode cX2_readNumber 74 = .ok (.ireturn, 1) := by decide +kernel
set_option maxRecDepth 20000 in
theorem ggX2_passSign_X2_signAt : GoodIn wsX2_passSign wsX2_signAt := goodIn_r _ [6, 7, 8, 9, 10, 11, 12, 13, 14, 15, 16, 17, 18, 19] (by decide +kernel) (by decide +kernel)
set_option maxRecDepth 20000 in
theorem gX2_passSign_X2_signAt : GoodIn wsX2_passSign (wsV RX2 51 RX2 yX2_signAt wsX2_signAt) := goodIn_app (goodIn_of _ (by decide +kernel)) ggX2_passSign_X2_signAt
theorem dX2_passSign_0 : decode cX2_passSign 0 = .ok (.aload_n 0, 1) := by decide +kernel
theorem dX2_passSign_1 : decode cX2_passSign 1 = .ok (.aload_n 0, 1) := by decide +kernel
theorem dX2_passSign_2 : decode cX2_passSign 2 = .ok (.getfield 44, 3) := by decide +kernel
theorem dX2_passSign_5 : decode cX2_passSign 5 = .ok (.invokevirtual 51, 3) := by decide +kernel
theorem dX2_passSign_8 : decode cX2_passSign 8 = .ok (.iload_n 1, 1) := by decide +kernel
theorem dX2_passSign_9 : decode cX2_passSign 9 = .ok (.if_icmp .eq 5, 3) := by decide +kernel
theorem dX2_passSign_12 : decode cX2_passSign 12 = .ok (.iconst 0, 1) := by decide +kernel
theorem dX2_passSign_13 : decode cX2_passSign 13 = .ok (.ireturn, 1) := by decide +kernel
theorem dX2_passSign_14 : decode cX2_passSign 14 = .ok (.aload_n 0, 1) := by decide +kernel
theorem dX2_passSign_15 : decode cX2_passSign 15 = .ok (.dup, 1) := by decide +kernel
theorem dX2_passSign_16 : decode cX2_passSign 16 = .ok (.getfield 44, 3) := by decide +kernel
theorem dX2_passSign_19 : decode cX2_passSign 19 = .ok (.iconst 1, 1) := by decide +kernel
theorem dX2_passSign_20 : decode cX2_passSign 20 = .ok (.iadd, 1) := by decide +kernel
theorem dX2_passSign_21 : decode cX2_passSign 21 = .ok (.putfield 44, 3) := by decide +kernel
theorem dX2_passSign_24 : decode cX2_passSign 24 = .ok (.iconst 1, 1) := by decide +kernel
theorem dX2_passSign_25 : decode cX2_passSign 25 = .ok (.ireturn, 1) := by decide +kernel
set_option maxRecDepth 20000 in
theorem ggX2_signAt_X4_at : GoodIn wsX2_signAt wsX4_at := goodIn_r _ [5] (by decide +kernel) (by decide +kernel)
set_option maxRecDepth 20000 in
theorem gX2_signAt_X4_at_n59 : GoodIn wsX2_signAt (wsX4_at) := ggX2_signAt_X4_at
theorem dX2_signAt_0 : decode cX2_signAt 0 = .ok (.iload_n 1, 1) := by decide +kernel
theorem dX2_signAt_1 : decode cX2_signAt 1 = .ok (.aload_n 0, 1) := by decide +kernel
theorem dX2_signAt_2 : decode cX2_signAt 2 = .ok (.getfield 18, 3) := by decide +kernel
theorem dX2_signAt_5 : decode cX2_signAt 5 = .ok (.if_icmp .ge 14, 3) := by decide +kernel
theorem dX2_signAt_8 : decode cX2_signAt 8 = .ok (.aload_n 0, 1) := by decide +kernel
theorem dX2_signAt_9 : decode cX2_signAt 9 = .ok (.getfield 9, 3) := by decide +kernel
theorem dX2_signAt_12 : decode cX2_signAt 12 = .ok (.iload_n 1, 1) := by decide +kernel
theorem dX2_signAt_13 : decode cX2_signAt 13 = .ok (.invokestatic 59, 3) := by decide +kernel
theorem dX2_signAt_16 : decode cX2_signAt 16 = .ok (.goto 4, 3) := by decide +kernel
theorem dX2_signAt_19 : decode cX2_signAt 19 = .ok (.iconst 0, 1) := by decide +kernel
theorem dX2_signAt_20 : decode cX2_signAt 20 = .ok (.ireturn, 1) := by decide +kernel
theorem dX2_isDigit_0 : decode cX2_isDigit 0 = .ok (.iload_n 0, 1) := by decide +kernel
theorem dX2_isDigit_1 : decode cX2_isDigit 1 = .ok (.bipush 48, 2) := by decide +kernel
theorem dX2_isDigit_3 : decode cX2_isDigit 3 = .ok (.if_icmp .lt 13, 3) := by decide +kernel
theorem dX2_isDigit_6 : decode cX2_isDigit 6 = .ok (.iload_n 0, 1) := by decide +kernel
theorem dX2_isDigit_7 : decode cX2_isDigit 7 = .ok (.bipush 57, 2) := by decide +kernel
theorem dX2_isDigit_9 : decode cX2_isDigit 9 = .ok (.if_icmp .gt 7, 3) := by decide +kernel
theorem dX2_isDigit_12 : decode cX2_isDigit 12 = .ok (.iconst 1, 1) := by decide +kernel
theorem dX2_isDigit_13 : decode cX2_isDigit 13 = .ok (.goto 4, 3) := by decide +kernel
theorem dX2_isDigit_16 : decode cX2_isDigit 16 = .ok (.iconst 0, 1) := by decide +kernel
theorem dX2_isDigit_17 : decode cX2_isDigit 17 = .ok (.ireturn, 1) := by decide +kernel
theorem dX3_init_0 : decode cX3_init 0 = .ok (.aload_n 0, 1) := by decide +kernel
theorem dX3_init_1 : decode cX3_init 1 = .ok (.invokespecial 3, 3) := by decide +kernel
theorem dX3_init_4 : decode cX3_init 4 = .ok (.aload_n 0, 1) := by decide +kernel
theorem dX3_init_5 : decode cX3_init 5 = .ok (.bipush 64, 2) := by decide +kernel
theorem dX3_init_7 : decode cX3_init 7 = .ok (.newarray .int, 2) := by decide +kernel
theorem dX3_init_9 : decode cX3_init 9 = .ok (.putfield 9, 3) := by decide +kernel
theorem dX3_init_12 : decode cX3_init 12 = .ok (.aload_n 0, 1) := by decide +kernel
theorem dX3_init_13 : decode cX3_init 13 = .ok (.bipush 8, 2) := by decide +kernel
theorem dX3_init_15 : decode cX3_init 15 = .ok (.newarray .int, 2) := by decide +kernel
theorem dX3_init_17 : decode cX3_init 17 = .ok (.putfield 15, 3) := by decide +kernel
theorem dX3_init_20 : decode cX3_init 20 = .ok (.aload_n 0, 1) := by decide +kernel
theorem dX3_init_21 : decode cX3_init 21 = .ok (.bipush 8, 2) := by decide +kernel
theorem dX3_init_23 : decode cX3_init 23 = .ok (.newarray .int, 2) := by decide +kernel
theorem dX3_init_25 : decode cX3_init 25 = .ok (.putfield 18, 3) := by decide +kernel
theorem dX3_init_28 : decode cX3_init 28 = .ok (.aload_n 0, 1) := by decide +kernel
theorem dX3_init_29 : decode cX3_init 29 = .ok (.bipush 8, 2) := by decide +kernel
theorem dX3_init_31 : decode cX3_init 31 = .ok (.newarray .int, 2) := by decide +kernel
theorem dX3_init_33 : decode cX3_init 33 = .ok (.putfield 21, 3) := by decide +kernel
theorem dX3_init_36 : decode cX3_init 36 = .ok (.return_, 1) := by decide +kernel
theorem dX3_nextLength_0 : decode cX3_nextLength 0 = .ok (.aload_n 0, 1) := by decide +kernel
theorem dX3_nextLength_1 : decode cX3_nextLength 1 = .ok (.getfield 24, 3) := by decide +kernel
theorem dX3_nextLength_4 : decode cX3_nextLength 4 = .ok (.ireturn, 1) := by decide +kernel
set_option maxRecDepth 20000 in
theorem ggX3_nextPupil_X4_at : GoodIn wsX3_nextPupil wsX4_at := goodIn_r _ [4] (by decide +kernel) (by decide +kernel)
set_option maxRecDepth 20000 in
theorem gX3_nextPupil_X4_at_n28 : GoodIn wsX3_nextPupil (wsX4_at) := ggX3_nextPupil_X4_at
theorem dX3_nextPupil_0 : decode cX3_nextPupil 0 = .ok (.aload_n 0, 1) := by decide +kernel
theorem dX3_nextPupil_1 : decode cX3_nextPupil 1 = .ok (.getfield 21, 3) := by decide +kernel
theorem dX3_nextPupil_4 : decode cX3_nextPupil 4 = .ok (.iload_n 1, 1) := by decide +kernel
theorem dX3_nextPupil_5 : decode cX3_nextPupil 5 = .ok (.invokestatic 28, 3) := by decide +kernel
theorem dX3_nextPupil_8 : decode cX3_nextPupil 8 = .ok (.ireturn, 1) := by decide +kernel
set_option maxRecDepth 20000 in
theorem ggX3_nextAmount_X3_nextPupil : GoodIn wsX3_nextAmount wsX3_nextPupil := goodIn_r _ [10, 11, 12, 13, 14, 24, 25, 26, 27, 28] (by decide +kernel) (by decide +kernel)
set_option maxRecDepth 20000 in
theorem gX3_nextAmount_X3_nextPupil : GoodIn wsX3_nextAmount (wsV RX3 32 RX3 yX3_nextPupil wsX3_nextPupil) := goodIn_app (goodIn_of _ (by decide +kernel)) ggX3_nextAmount_X3_nextPupil
set_option maxRecDepth 20000 in
theorem ggX3_nextAmount_X3_pupilBehind : GoodIn wsX3_nextAmount wsX3_pupilBehind := goodIn_r _ [18, 11, 1, 12, 13, 14, 24, 25, 26, 27, 28] (by decide +kernel) (by decide +kernel)
set_option maxRecDepth 20000 in
theorem gX3_nextAmount_X3_pupilBehind : GoodIn wsX3_nextAmount (wsV RX3 36 RX3 yX3_pupilBehind wsX3_pupilBehind) := goodIn_app (goodIn_of _ (by decide +kernel)) ggX3_nextAmount_X3_pupilBehind
set_option maxRecDepth 20000 in
theorem ggX3_nextAmount_X3_owedBetween : GoodIn wsX3_nextAmount wsX3_owedBetween := goodIn_r _ [22, 23, 24, 25, 26, 27, 28] (by decide +kernel) (by decide +kernel)
set_option maxRecDepth 20000 in
theorem gX3_nextAmount_X3_owedBetween : GoodIn wsX3_nextAmount (wsV RX3 39 RX3 yX3_owedBetween wsX3_owedBetween) := goodIn_app (goodIn_of _ (by decide +kernel)) ggX3_nextAmount_X3_owedBetween
theorem dX3_nextAmount_0 : decode cX3_nextAmount 0 = .ok (.iconst 0, 1) := by decide +kernel
theorem dX3_nextAmount_1 : decode cX3_nextAmount 1 = .ok (.istore_n 1, 1) := by decide +kernel
theorem dX3_nextAmount_2 : decode cX3_nextAmount 2 = .ok (.iconst 0, 1) := by decide +kernel
theorem dX3_nextAmount_3 : decode cX3_nextAmount 3 = .ok (.istore_n 2, 1) := by decide +kernel
theorem dX3_nextAmount_4 : decode cX3_nextAmount 4 = .ok (.iload_n 2, 1) := by decide +kernel
theorem dX3_nextAmount_5 : decode cX3_nextAmount 5 = .ok (.aload_n 0, 1) := by decide +kernel
theorem dX3_nextAmount_6 : decode cX3_nextAmount 6 = .ok (.getfield 24, 3) := by decide +kernel
theorem dX3_nextAmount_9 : decode cX3_nextAmount 9 = .ok (.if_icmp .ge 38, 3) := by decide +kernel
theorem dX3_nextAmount_12 : decode cX3_nextAmount 12 = .ok (.aload_n 0, 1) := by decide +kernel
theorem dX3_nextAmount_13 : decode cX3_nextAmount 13 = .ok (.aload_n 0, 1) := by decide +kernel
theorem dX3_nextAmount_14 : decode cX3_nextAmount 14 = .ok (.iload_n 2, 1) := by decide +kernel
theorem dX3_nextAmount_15 : decode cX3_nextAmount 15 = .ok (.invokevirtual 32, 3) := by decide +kernel
theorem dX3_nextAmount_18 : decode cX3_nextAmount 18 = .ok (.aload_n 0, 1) := by decide +kernel
theorem dX3_nextAmount_19 : decode cX3_nextAmount 19 = .ok (.iload_n 2, 1) := by decide +kernel
theorem dX3_nextAmount_20 : decode cX3_nextAmount 20 = .ok (.invokevirtual 36, 3) := by decide +kernel
theorem dX3_nextAmount_23 : decode cX3_nextAmount 23 = .ok (.invokevirtual 39, 3) := by decide +kernel
theorem dX3_nextAmount_26 : decode cX3_nextAmount 26 = .ok (.istore_n 3, 1) := by decide +kernel
theorem dX3_nextAmount_27 : decode cX3_nextAmount 27 = .ok (.iload_n 2, 1) := by decide +kernel
theorem dX3_nextAmount_28 : decode cX3_nextAmount 28 = .ok (.ifCond .ne 7, 3) := by decide +kernel
theorem dX3_nextAmount_31 : decode cX3_nextAmount 31 = .ok (.iload_n 3, 1) := by decide +kernel
theorem dX3_nextAmount_32 : decode cX3_nextAmount 32 = .ok (.goto 8, 3) := by decide +kernel
theorem dX3_nextAmount_35 : decode cX3_nextAmount 35 = .ok (.iload_n 1, 1) := by decide +kernel
theorem dX3_nextAmount_36 : decode cX3_nextAmount 36 = .ok (.iload_n 3, 1) := by decide +kernel
theorem dX3_nextAmount_37 : decode cX3_nextAmount 37 = .ok (.invokestatic 43, 3) := by decide +kernel
theorem dX3_nextAmount_40 : decode cX3_nextAmount 40 = .ok (.istore_n 1, 1) := by decide +kernel
theorem dX3_nextAmount_41 : decode cX3_nextAmount 41 = .ok (.iinc 2 1, 3) := by decide +kernel
theorem dX3_nextAmount_44 : decode cX3_nextAmount 44 = .ok (.goto (-40), 3) := by decide +kernel
theorem dX3_nextAmount_47 : decode cX3_nextAmount 47 = .ok (.iload_n 1, 1) := by decide +kernel
theorem dX3_nextAmount_48 : decode cX3_nextAmount 48 = .ok (.ireturn, 1) := by decide +kernel
set_option maxRecDepth 20000 in
theorem ggX3_stepsBetween_X3_readOwed : GoodIn wsX3_stepsBetween wsX3_readOwed := goodIn_r _ [6, 7, 8, 9, 10, 11, 12, 13, 14, 15, 16, 17, 18, 19, 20, 21, 22, 23, 24, 25, 37, 38, 39, 40, 41, 42, 43, 44, 45, 46, 47, 48, 49, 50, 51, 52, 53, 54] (by decide +kernel) (by decide +kernel)
set_option maxRecDepth 20000 in
theorem gX3_stepsBetween_X3_readOwed : GoodIn wsX3_stepsBetween (wsV RX3 48 RX3 yX3_readOwed wsX3_readOwed) := goodIn_app (goodIn_of _ (by decide +kernel)) ggX3_stepsBetween_X3_readOwed
set_option maxRecDepth 20000 in
theorem ggX3_stepsBetween_X3_measureSteps : GoodIn wsX3_stepsBetween wsX3_measureSteps := goodIn_r _ [29, 1, 30, 31, 22, 32, 21, 23, 33, 34, 35, 5, 36, 7, 37, 38, 39, 40, 41] (by decide +kernel) (by decide +kernel)
set_option maxRecDepth 20000 in
theorem gX3_stepsBetween_X3_measureSteps : GoodIn wsX3_stepsBetween (wsV RX3 52 RX3 yX3_measureSteps wsX3_measureSteps) := goodIn_app (goodIn_of _ (by decide +kernel)) ggX3_stepsBetween_X3_measureSteps
set_option maxRecDepth 20000 in
theorem ggX3_stepsBetween_X4_at : GoodIn wsX3_stepsBetween wsX4_at := goodIn_r _ [23] (by decide +kernel) (by decide +kernel)
set_option maxRecDepth 20000 in
theorem gX3_stepsBetween_X4_at_n28 : GoodIn wsX3_stepsBetween (wsX4_at) := ggX3_stepsBetween_X4_at
theorem dX3_stepsBetween_0 : decode cX3_stepsBetween 0 = .ok (.aload_n 0, 1) := by decide +kernel
theorem dX3_stepsBetween_1 : decode cX3_stepsBetween 1 = .ok (.aload_n 1, 1) := by decide +kernel
theorem dX3_stepsBetween_2 : decode cX3_stepsBetween 2 = .ok (.iload 4, 2) := by decide +kernel
theorem dX3_stepsBetween_4 : decode cX3_stepsBetween 4 = .ok (.invokevirtual 48, 3) := by decide +kernel
theorem dX3_stepsBetween_7 : decode cX3_stepsBetween 7 = .ok (.aload_n 0, 1) := by decide +kernel
theorem dX3_stepsBetween_8 : decode cX3_stepsBetween 8 = .ok (.iload_n 3, 1) := by decide +kernel
theorem dX3_stepsBetween_9 : decode cX3_stepsBetween 9 = .ok (.iconst 0, 1) := by decide +kernel
theorem dX3_stepsBetween_10 : decode cX3_stepsBetween 10 = .ok (.invokevirtual 52, 3) := by decide +kernel
theorem dX3_stepsBetween_13 : decode cX3_stepsBetween 13 = .ok (.aload_n 0, 1) := by decide +kernel
theorem dX3_stepsBetween_14 : decode cX3_stepsBetween 14 = .ok (.getfield 15, 3) := by decide +kernel
theorem dX3_stepsBetween_17 : decode cX3_stepsBetween 17 = .ok (.iload_n 2, 1) := by decide +kernel
theorem dX3_stepsBetween_18 : decode cX3_stepsBetween 18 = .ok (.invokestatic 28, 3) := by decide +kernel
theorem dX3_stepsBetween_21 : decode cX3_stepsBetween 21 = .ok (.ireturn, 1) := by decide +kernel
set_option maxRecDepth 20000 in
theorem ggX3_clearKind_X4_isKind : GoodIn wsX3_clearKind wsX4_isKind := goodIn_r _ [5] (by decide +kernel) (by decide +kernel)
set_option maxRecDepth 20000 in
theorem gX3_clearKind_X4_isKind_n56 : GoodIn wsX3_clearKind (wsX4_isKind) := ggX3_clearKind_X4_isKind
set_option maxRecDepth 20000 in
theorem ggX3_clearKind_X3_findNext : GoodIn wsX3_clearKind wsX3_findNext := goodIn_r _ [10, 2, 11, 12, 13, 14, 9, 15, 16, 17, 18, 19, 20, 21, 22, 23, 24, 25, 26, 27, 28, 29, 30, 4, 31, 32, 33, 34, 35, 36, 37, 38, 39, 40, 41, 42, 43, 44, 45, 46, 47, 48, 49, 50, 51, 52, 53, 54, 55, 56, 57, 97, 98, 99, 100, 101, 102, 103, 104, 105, 106, 107, 108, 109, 110, 111, 112, 113, 114] (by decide +kernel) (by decide +kernel)
set_option maxRecDepth 20000 in
theorem gX3_clearKind_X3_findNext : GoodIn wsX3_clearKind (wsV RX3 61 RX3 yX3_findNext wsX3_findNext) := goodIn_app (goodIn_of _ (by decide +kernel)) ggX3_clearKind_X3_findNext
set_option maxRecDepth 20000 in
theorem ggX3_clearKind_X3_nextAmount : GoodIn wsX3_clearKind wsX3_nextAmount := goodIn_r _ [61, 2, 62, 63, 64, 65, 50, 51, 52, 9, 53, 11, 30, 4, 31, 66, 67, 68, 69, 42, 43, 44, 45, 16, 97, 98, 99, 100, 101] (by decide +kernel) (by decide +kernel)
set_option maxRecDepth 20000 in
theorem gX3_clearKind_X3_nextAmount : GoodIn wsX3_clearKind (wsV RX3 65 RX3 yX3_nextAmount wsX3_nextAmount) := goodIn_app (goodIn_of _ (by decide +kernel)) ggX3_clearKind_X3_nextAmount
set_option maxRecDepth 20000 in
theorem ggX3_clearKind_X3_nextPupil : GoodIn wsX3_clearKind wsX3_nextPupil := goodIn_r _ [53, 11, 30, 4, 31, 97, 98, 99, 100, 101] (by decide +kernel) (by decide +kernel)
set_option maxRecDepth 20000 in
theorem gX3_clearKind_X3_nextPupil : GoodIn wsX3_clearKind (wsV RX3 32 RX3 yX3_nextPupil wsX3_nextPupil) := goodIn_app (goodIn_of _ (by decide +kernel)) ggX3_clearKind_X3_nextPupil
set_option maxRecDepth 20000 in
theorem ggX3_clearKind_X3_pupilBehind : GoodIn wsX3_clearKind wsX3_pupilBehind := goodIn_r _ [69, 11, 2, 30, 4, 31, 97, 98, 99, 100, 101] (by decide +kernel) (by decide +kernel)
set_option maxRecDepth 20000 in
theorem gX3_clearKind_X3_pupilBehind : GoodIn wsX3_clearKind (wsV RX3 36 RX3 yX3_pupilBehind wsX3_pupilBehind) := goodIn_app (goodIn_of _ (by decide +kernel)) ggX3_clearKind_X3_pupilBehind
set_option maxRecDepth 20000 in
theorem ggX3_clearKind_X0_takeFavours : GoodIn wsX3_clearKind wsX0_takeFavours := goodIn_r _ [73, 74, 75, 63, 64, 65, 76, 77, 78, 20, 79, 80, 81, 18, 19, 21, 22, 82, 24, 25, 26, 27, 28, 29, 30, 4, 31, 32, 33, 83, 84, 85, 86, 87, 40, 41, 102, 103, 104, 105, 106, 107, 108, 109, 110, 111, 112, 113, 114] (by decide +kernel) (by decide +kernel)
set_option maxRecDepth 20000 in
theorem gX3_clearKind_X0_takeFavours : GoodIn wsX3_clearKind (wsV RX3 69 RX0 yX0_takeFavours wsX0_takeFavours) := goodIn_app (goodIn_of _ (by decide +kernel)) ggX3_clearKind_X0_takeFavours
set_option maxRecDepth 20000 in
theorem ggX3_clearKind_X0_countCleared : GoodIn wsX3_clearKind wsX0_countCleared := goodIn_r _ [91, 92, 22, 32, 4, 33, 102, 103, 104, 105, 106, 107, 108, 109, 110, 111, 112, 113, 114] (by decide +kernel) (by decide +kernel)
set_option maxRecDepth 20000 in
theorem gX3_clearKind_X0_countCleared : GoodIn wsX3_clearKind (wsV RX3 75 RX0 yX0_countCleared wsX0_countCleared) := goodIn_app (goodIn_of _ (by decide +kernel)) ggX3_clearKind_X0_countCleared
set_option maxRecDepth 20000 in
theorem ggX3_clearKind_X0_countRing : GoodIn wsX3_clearKind wsX0_countRing := goodIn_r _ [96, 22, 32, 4, 33, 102, 103, 104, 105, 106, 107, 108, 109, 110, 111, 112, 113, 114] (by decide +kernel) (by decide +kernel)
set_option maxRecDepth 20000 in
theorem gX3_clearKind_X0_countRing : GoodIn wsX3_clearKind (wsV RX3 78 RX0 yX0_countRing wsX0_countRing) := goodIn_app (goodIn_of _ (by decide +kernel)) ggX3_clearKind_X0_countRing
theorem dX3_clearKind_0 : decode cX3_clearKind 0 = .ok (.iload_n 2, 1) := by decide +kernel
theorem dX3_clearKind_1 : decode cX3_clearKind 1 = .ok (.invokestatic 56, 3) := by decide +kernel
theorem dX3_clearKind_4 : decode cX3_clearKind 4 = .ok (.ifCond .ne 6, 3) := by decide +kernel
theorem dX3_clearKind_7 : decode cX3_clearKind 7 = .ok (.ldc 60, 2) := by decide +kernel
theorem dX3_clearKind_9 : decode cX3_clearKind 9 = .ok (.ireturn, 1) := by decide +kernel
theorem dX3_clearKind_10 : decode cX3_clearKind 10 = .ok (.iconst 0, 1) := by decide +kernel
theorem dX3_clearKind_11 : decode cX3_clearKind 11 = .ok (.istore_n 3, 1) := by decide +kernel
theorem dX3_clearKind_12 : decode cX3_clearKind 12 = .ok (.iconst 0, 1) := by decide +kernel
theorem dX3_clearKind_13 : decode cX3_clearKind 13 = .ok (.istore 4, 2) := by decide +kernel
theorem dX3_clearKind_15 : decode cX3_clearKind 15 = .ok (.iload 4, 2) := by decide +kernel
theorem dX3_clearKind_17 : decode cX3_clearKind 17 = .ok (.sipush 1000, 3) := by decide +kernel
theorem dX3_clearKind_20 : decode cX3_clearKind 20 = .ok (.if_icmp .ge 87, 3) := by decide +kernel
theorem dX3_clearKind_23 : decode cX3_clearKind 23 = .ok (.aload_n 0, 1) := by decide +kernel
theorem dX3_clearKind_24 : decode cX3_clearKind 24 = .ok (.aload_n 1, 1) := by decide +kernel
theorem dX3_clearKind_25 : decode cX3_clearKind 25 = .ok (.iload_n 2, 1) := by decide +kernel
theorem dX3_clearKind_26 : decode cX3_clearKind 26 = .ok (.invokevirtual 61, 3) := by decide +kernel
theorem dX3_clearKind_29 : decode cX3_clearKind 29 = .ok (.ifCond .eq 78, 3) := by decide +kernel
theorem dX3_clearKind_32 : decode cX3_clearKind 32 = .ok (.aload_n 0, 1) := by decide +kernel
theorem dX3_clearKind_33 : decode cX3_clearKind 33 = .ok (.invokevirtual 65, 3) := by decide +kernel
theorem dX3_clearKind_36 : decode cX3_clearKind 36 = .ok (.istore 5, 2) := by decide +kernel
theorem dX3_clearKind_38 : decode cX3_clearKind 38 = .ok (.iconst 0, 1) := by decide +kernel
theorem dX3_clearKind_39 : decode cX3_clearKind 39 = .ok (.istore 6, 2) := by decide +kernel
theorem dX3_clearKind_41 : decode cX3_clearKind 41 = .ok (.iload 6, 2) := by decide +kernel
theorem dX3_clearKind_43 : decode cX3_clearKind 43 = .ok (.aload_n 0, 1) := by decide +kernel
theorem dX3_clearKind_44 : decode cX3_clearKind 44 = .ok (.getfield 24, 3) := by decide +kernel
theorem dX3_clearKind_47 : decode cX3_clearKind 47 = .ok (.if_icmp .ge 40, 3) := by decide +kernel
theorem dX3_clearKind_50 : decode cX3_clearKind 50 = .ok (.aload_n 1, 1) := by decide +kernel
theorem dX3_clearKind_51 : decode cX3_clearKind 51 = .ok (.aload_n 0, 1) := by decide +kernel
theorem dX3_clearKind_52 : decode cX3_clearKind 52 = .ok (.iload 6, 2) := by decide +kernel
theorem dX3_clearKind_54 : decode cX3_clearKind 54 = .ok (.invokevirtual 32, 3) := by decide +kernel
theorem dX3_clearKind_57 : decode cX3_clearKind 57 = .ok (.aload_n 0, 1) := by decide +kernel
theorem dX3_clearKind_58 : decode cX3_clearKind 58 = .ok (.iload 6, 2) := by decide +kernel
theorem dX3_clearKind_60 : decode cX3_clearKind 60 = .ok (.invokevirtual 36, 3) := by decide +kernel
theorem dX3_clearKind_63 : decode cX3_clearKind 63 = .ok (.iload_n 2, 1) := by decide +kernel
theorem dX3_clearKind_64 : decode cX3_clearKind 64 = .ok (.iload 5, 2) := by decide +kernel
theorem dX3_clearKind_66 : decode cX3_clearKind 66 = .ok (.invokevirtual 69, 3) := by decide +kernel
theorem dX3_clearKind_69 : decode cX3_clearKind 69 = .ok (.aload_n 1, 1) := by decide +kernel
theorem dX3_clearKind_70 : decode cX3_clearKind 70 = .ok (.aload_n 0, 1) := by decide +kernel
theorem dX3_clearKind_71 : decode cX3_clearKind 71 = .ok (.iload 6, 2) := by decide +kernel
theorem dX3_clearKind_73 : decode cX3_clearKind 73 = .ok (.invokevirtual 32, 3) := by decide +kernel
theorem dX3_clearKind_76 : decode cX3_clearKind 76 = .ok (.iload 5, 2) := by decide +kernel
theorem dX3_clearKind_78 : decode cX3_clearKind 78 = .ok (.invokevirtual 75, 3) := by decide +kernel
theorem dX3_clearKind_81 : decode cX3_clearKind 81 = .ok (.iinc 6 1, 3) := by decide +kernel
theorem dX3_clearKind_84 : decode cX3_clearKind 84 = .ok (.goto (-43), 3) := by decide +kernel
theorem dX3_clearKind_87 : decode cX3_clearKind 87 = .ok (.aload_n 1, 1) := by decide +kernel
theorem dX3_clearKind_88 : decode cX3_clearKind 88 = .ok (.invokevirtual 78, 3) := by decide +kernel
theorem dX3_clearKind_91 : decode cX3_clearKind 91 = .ok (.iload_n 3, 1) := by decide +kernel
theorem dX3_clearKind_92 : decode cX3_clearKind 92 = .ok (.iload 5, 2) := by decide +kernel
theorem dX3_clearKind_94 : decode cX3_clearKind 94 = .ok (.aload_n 0, 1) := by decide +kernel
theorem dX3_clearKind_95 : decode cX3_clearKind 95 = .ok (.getfield 24, 3) := by decide +kernel
theorem dX3_clearKind_98 : decode cX3_clearKind 98 = .ok (.imul, 1) := by decide +kernel
theorem dX3_clearKind_99 : decode cX3_clearKind 99 = .ok (.iadd, 1) := by decide +kernel
theorem dX3_clearKind_100 : decode cX3_clearKind 100 = .ok (.istore_n 3, 1) := by decide +kernel
theorem dX3_clearKind_101 : decode cX3_clearKind 101 = .ok (.iinc 4 1, 3) := by decide +kernel
theorem dX3_clearKind_104 : decode cX3_clearKind 104 = .ok (.goto (-89), 3) := by decide +kernel
theorem dX3_clearKind_107 : decode cX3_clearKind 107 = .ok (.iload_n 3, 1) := by decide +kernel
theorem dX3_clearKind_108 : decode cX3_clearKind 108 = .ok (.ireturn, 1) := by decide +kernel
set_option maxRecDepth 20000 in
theorem ggX3_findNext_X3_readOwed : GoodIn wsX3_findNext wsX3_readOwed := goodIn_r _ [7, 8, 9, 10, 11, 12, 13, 14, 15, 16, 17, 18, 19, 20, 21, 22, 23, 24, 25, 26, 51, 52, 53, 54, 55, 56, 57, 58, 59, 60, 61, 62, 63, 64, 65, 66, 67, 68] (by decide +kernel) (by decide +kernel)
set_option maxRecDepth 20000 in
theorem gX3_findNext_X3_readOwed : GoodIn wsX3_findNext (wsV RX3 48 RX3 yX3_readOwed wsX3_readOwed) := goodIn_app (goodIn_of _ (by decide +kernel)) ggX3_findNext_X3_readOwed
set_option maxRecDepth 20000 in
theorem ggX3_findNext_X3_measureSteps : GoodIn wsX3_findNext wsX3_measureSteps := goodIn_r _ [30, 31, 32, 33, 23, 34, 22, 24, 35, 36, 37, 6, 38, 8, 51, 52, 53, 54, 55] (by decide +kernel) (by decide +kernel)
set_option maxRecDepth 20000 in
theorem gX3_findNext_X3_measureSteps : GoodIn wsX3_findNext (wsV RX3 52 RX3 yX3_measureSteps wsX3_measureSteps) := goodIn_app (goodIn_of _ (by decide +kernel)) ggX3_findNext_X3_measureSteps
set_option maxRecDepth 20000 in
theorem ggX3_findNext_X3_shortestFrom : GoodIn wsX3_findNext wsX3_shortestFrom := goodIn_r _ [42, 31, 22, 23, 24, 35, 36, 37, 6, 38, 8, 51, 52, 53, 54, 55] (by decide +kernel) (by decide +kernel)
set_option maxRecDepth 20000 in
theorem gX3_findNext_X3_shortestFrom : GoodIn wsX3_findNext (wsV RX3 81 RX3 yX3_shortestFrom wsX3_shortestFrom) := goodIn_app (goodIn_of _ (by decide +kernel)) ggX3_findNext_X3_shortestFrom
set_option maxRecDepth 20000 in
theorem ggX3_findNext_X4_put : GoodIn wsX3_findNext wsX4_put := goodIn_r _ [34] (by decide +kernel) (by decide +kernel)
set_option maxRecDepth 20000 in
theorem gX3_findNext_X4_put_n84 : GoodIn wsX3_findNext (wsX4_put) := ggX3_findNext_X4_put
set_option maxRecDepth 20000 in
theorem ggX3_findNext_X3_nextPupil : GoodIn wsX3_findNext wsX3_nextPupil := goodIn_r _ [46, 2, 22, 23, 24, 51, 52, 53, 54, 55] (by decide +kernel) (by decide +kernel)
set_option maxRecDepth 20000 in
theorem gX3_findNext_X3_nextPupil : GoodIn wsX3_findNext (wsV RX3 32 RX3 yX3_nextPupil wsX3_nextPupil) := goodIn_app (goodIn_of _ (by decide +kernel)) ggX3_findNext_X3_nextPupil
set_option maxRecDepth 20000 in
theorem ggX3_findNext_X3_lowestBehind : GoodIn wsX3_findNext wsX3_lowestBehind := goodIn_r _ [50, 31, 22, 23, 24, 35, 36, 37, 6, 38, 8, 51, 52, 53, 54, 55] (by decide +kernel) (by decide +kernel)
set_option maxRecDepth 20000 in
theorem gX3_findNext_X3_lowestBehind : GoodIn wsX3_findNext (wsV RX3 88 RX3 yX3_lowestBehind wsX3_lowestBehind) := goodIn_app (goodIn_of _ (by decide +kernel)) ggX3_findNext_X3_lowestBehind
theorem dX3_findNext_0 : decode cX3_findNext 0 = .ok (.aload_n 0, 1) := by decide +kernel
theorem dX3_findNext_1 : decode cX3_findNext 1 = .ok (.aload_n 1, 1) := by decide +kernel
theorem dX3_findNext_2 : decode cX3_findNext 2 = .ok (.iload_n 2, 1) := by decide +kernel
theorem dX3_findNext_3 : decode cX3_findNext 3 = .ok (.invokevirtual 48, 3) := by decide +kernel
theorem dX3_findNext_6 : decode cX3_findNext 6 = .ok (.aload_n 0, 1) := by decide +kernel
theorem dX3_findNext_7 : decode cX3_findNext 7 = .ok (.iconst 0, 1) := by decide +kernel
theorem dX3_findNext_8 : decode cX3_findNext 8 = .ok (.putfield 24, 3) := by decide +kernel
theorem dX3_findNext_11 : decode cX3_findNext 11 = .ok (.iconst (-1), 1) := by decide +kernel
theorem dX3_findNext_12 : decode cX3_findNext 12 = .ok (.istore_n 3, 1) := by decide +kernel
theorem dX3_findNext_13 : decode cX3_findNext 13 = .ok (.iconst 0, 1) := by decide +kernel
theorem dX3_findNext_14 : decode cX3_findNext 14 = .ok (.istore 4, 2) := by decide +kernel
theorem dX3_findNext_16 : decode cX3_findNext 16 = .ok (.iload 4, 2) := by decide +kernel
theorem dX3_findNext_18 : decode cX3_findNext 18 = .ok (.bipush 8, 2) := by decide +kernel
theorem dX3_findNext_20 : decode cX3_findNext 20 = .ok (.if_icmp .ge 52, 3) := by decide +kernel
theorem dX3_findNext_23 : decode cX3_findNext 23 = .ok (.aload_n 0, 1) := by decide +kernel
theorem dX3_findNext_24 : decode cX3_findNext 24 = .ok (.iload 4, 2) := by decide +kernel
theorem dX3_findNext_26 : decode cX3_findNext 26 = .ok (.iload 4, 2) := by decide +kernel
theorem dX3_findNext_28 : decode cX3_findNext 28 = .ok (.invokevirtual 52, 3) := by decide +kernel
theorem dX3_findNext_31 : decode cX3_findNext 31 = .ok (.aload_n 0, 1) := by decide +kernel
theorem dX3_findNext_32 : decode cX3_findNext 32 = .ok (.iload 4, 2) := by decide +kernel
theorem dX3_findNext_34 : decode cX3_findNext 34 = .ok (.invokevirtual 81, 3) := by decide +kernel
theorem dX3_findNext_37 : decode cX3_findNext 37 = .ok (.istore 5, 2) := by decide +kernel
theorem dX3_findNext_39 : decode cX3_findNext 39 = .ok (.iload 5, 2) := by decide +kernel
theorem dX3_findNext_41 : decode cX3_findNext 41 = .ok (.ifCond .le 25, 3) := by decide +kernel
theorem dX3_findNext_44 : decode cX3_findNext 44 = .ok (.iload_n 3, 1) := by decide +kernel
theorem dX3_findNext_45 : decode cX3_findNext 45 = .ok (.ifCond .lt 12, 3) := by decide +kernel
theorem dX3_findNext_48 : decode cX3_findNext 48 = .ok (.iload 5, 2) := by decide +kernel
theorem dX3_findNext_50 : decode cX3_findNext 50 = .ok (.aload_n 0, 1) := by decide +kernel
theorem dX3_findNext_51 : decode cX3_findNext 51 = .ok (.getfield 24, 3) := by decide +kernel
theorem dX3_findNext_54 : decode cX3_findNext 54 = .ok (.if_icmp .ge 12, 3) := by decide +kernel
theorem dX3_findNext_57 : decode cX3_findNext 57 = .ok (.iload 4, 2) := by decide +kernel
theorem dX3_findNext_59 : decode cX3_findNext 59 = .ok (.istore_n 3, 1) := by decide +kernel
theorem dX3_findNext_60 : decode cX3_findNext 60 = .ok (.aload_n 0, 1) := by decide +kernel
theorem dX3_findNext_61 : decode cX3_findNext 61 = .ok (.iload 5, 2) := by decide +kernel
theorem dX3_findNext_63 : decode cX3_findNext 63 = .ok (.putfield 24, 3) := by decide +kernel
theorem dX3_findNext_66 : decode cX3_findNext 66 = .ok (.iinc 4 1, 3) := by decide +kernel
theorem dX3_findNext_69 : decode cX3_findNext 69 = .ok (.goto (-53), 3) := by decide +kernel
theorem dX3_findNext_72 : decode cX3_findNext 72 = .ok (.iload_n 3, 1) := by decide +kernel
theorem dX3_findNext_73 : decode cX3_findNext 73 = .ok (.ifCond .ge 5, 3) := by decide +kernel
theorem dX3_findNext_76 : decode cX3_findNext 76 = .ok (.iconst 0, 1) := by decide +kernel
theorem dX3_findNext_77 : decode cX3_findNext 77 = .ok (.ireturn, 1) := by decide +kernel
theorem dX3_findNext_78 : decode cX3_findNext 78 = .ok (.aload_n 0, 1) := by decide +kernel
theorem dX3_findNext_79 : decode cX3_findNext 79 = .ok (.iload_n 3, 1) := by decide +kernel
theorem dX3_findNext_80 : decode cX3_findNext 80 = .ok (.iload_n 3, 1) := by decide +kernel
theorem dX3_findNext_81 : decode cX3_findNext 81 = .ok (.invokevirtual 52, 3) := by decide +kernel
theorem dX3_findNext_84 : decode cX3_findNext 84 = .ok (.aload_n 0, 1) := by decide +kernel
theorem dX3_findNext_85 : decode cX3_findNext 85 = .ok (.getfield 21, 3) := by decide +kernel
theorem dX3_findNext_88 : decode cX3_findNext 88 = .ok (.iconst 0, 1) := by decide +kernel
theorem dX3_findNext_89 : decode cX3_findNext 89 = .ok (.iload_n 3, 1) := by decide +kernel
theorem dX3_findNext_90 : decode cX3_findNext 90 = .ok (.invokestatic 84, 3) := by decide +kernel
theorem dX3_findNext_93 : decode cX3_findNext 93 = .ok (.iconst 1, 1) := by decide +kernel
theorem dX3_findNext_94 : decode cX3_findNext 94 = .ok (.istore 4, 2) := by decide +kernel
theorem dX3_findNext_96 : decode cX3_findNext 96 = .ok (.iload 4, 2) := by decide +kernel
theorem dX3_findNext_98 : decode cX3_findNext 98 = .ok (.aload_n 0, 1) := by decide +kernel
theorem dX3_findNext_99 : decode cX3_findNext 99 = .ok (.getfield 24, 3) := by decide +kernel
theorem dX3_findNext_102 : decode cX3_findNext 102 = .ok (.if_icmp .ge 37, 3) := by decide +kernel
theorem dX3_findNext_105 : decode cX3_findNext 105 = .ok (.aload_n 0, 1) := by decide +kernel
theorem dX3_findNext_106 : decode cX3_findNext 106 = .ok (.getfield 21, 3) := by decide +kernel
theorem dX3_findNext_109 : decode cX3_findNext 109 = .ok (.iload 4, 2) := by decide +kernel
theorem dX3_findNext_111 : decode cX3_findNext 111 = .ok (.aload_n 0, 1) := by decide +kernel
theorem dX3_findNext_112 : decode cX3_findNext 112 = .ok (.aload_n 0, 1) := by decide +kernel
theorem dX3_findNext_113 : decode cX3_findNext 113 = .ok (.iload 4, 2) := by decide +kernel
theorem dX3_findNext_115 : decode cX3_findNext 115 = .ok (.iconst 1, 1) := by decide +kernel
theorem dX3_findNext_116 : decode cX3_findNext 116 = .ok (.isub, 1) := by decide +kernel
theorem dX3_findNext_117 : decode cX3_findNext 117 = .ok (.invokevirtual 32, 3) := by decide +kernel
theorem dX3_findNext_120 : decode cX3_findNext 120 = .ok (.aload_n 0, 1) := by decide +kernel
theorem dX3_findNext_121 : decode cX3_findNext 121 = .ok (.getfield 24, 3) := by decide +kernel
theorem dX3_findNext_124 : decode cX3_findNext 124 = .ok (.iload 4, 2) := by decide +kernel
theorem dX3_findNext_126 : decode cX3_findNext 126 = .ok (.isub, 1) := by decide +kernel
theorem dX3_findNext_127 : decode cX3_findNext 127 = .ok (.invokevirtual 88, 3) := by decide +kernel
theorem dX3_findNext_130 : decode cX3_findNext 130 = .ok (.invokestatic 84, 3) := by decide +kernel
theorem dX3_findNext_133 : decode cX3_findNext 133 = .ok (.iinc 4 1, 3) := by decide +kernel
theorem dX3_findNext_136 : decode cX3_findNext 136 = .ok (.goto (-40), 3) := by decide +kernel
theorem dX3_findNext_139 : decode cX3_findNext 139 = .ok (.iconst 1, 1) := by decide +kernel
theorem dX3_findNext_140 : decode cX3_findNext 140 = .ok (.ireturn, 1) := by decide +kernel
set_option maxRecDepth 20000 in
theorem ggX3_readOwed_X0_number : GoodIn wsX3_readOwed wsX0_number := goodIn_r _ [6, 7, 25, 26, 27, 28, 29, 30, 31, 32, 33, 34, 35, 36, 37] (by decide +kernel) (by decide +kernel)
set_option maxRecDepth 20000 in
theorem gX3_readOwed_X0_number : GoodIn wsX3_readOwed (wsV RX3 91 RX0 yX0_number wsX0_number) := goodIn_app (goodIn_of _ (by decide +kernel)) ggX3_readOwed_X0_number
set_option maxRecDepth 20000 in
theorem ggX3_readOwed_X0_isLotOf : GoodIn wsX3_readOwed wsX0_isLotOf := goodIn_r _ [11, 12, 13, 14, 25, 26, 27, 28, 29, 30, 31, 32, 33, 34, 35, 36, 37] (by decide +kernel) (by decide +kernel)
set_option maxRecDepth 20000 in
theorem gX3_readOwed_X0_isLotOf : GoodIn wsX3_readOwed (wsV RX3 94 RX0 yX0_isLotOf wsX0_isLotOf) := goodIn_app (goodIn_of _ (by decide +kernel)) ggX3_readOwed_X0_isLotOf
set_option maxRecDepth 20000 in
theorem ggX3_readOwed_X4_at : GoodIn wsX3_readOwed wsX4_at := goodIn_r _ [17] (by decide +kernel) (by decide +kernel)
set_option maxRecDepth 20000 in
theorem gX3_readOwed_X4_at_n28 : GoodIn wsX3_readOwed (wsX4_at) := ggX3_readOwed_X4_at
set_option maxRecDepth 20000 in
theorem ggX3_readOwed_X4_add : GoodIn wsX3_readOwed wsX4_add := goodIn_r _ [19] (by decide +kernel) (by decide +kernel)
set_option maxRecDepth 20000 in
theorem gX3_readOwed_X4_add_n107 : GoodIn wsX3_readOwed (wsX4_add) := ggX3_readOwed_X4_add
theorem dX3_readOwed_0 : decode cX3_readOwed 0 = .ok (.iconst 0, 1) := by decide +kernel
theorem dX3_readOwed_1 : decode cX3_readOwed 1 = .ok (.istore_n 3, 1) := by decide +kernel
theorem dX3_readOwed_2 : decode cX3_readOwed 2 = .ok (.iload_n 3, 1) := by decide +kernel
theorem dX3_readOwed_3 : decode cX3_readOwed 3 = .ok (.aload_n 0, 1) := by decide +kernel
theorem dX3_readOwed_4 : decode cX3_readOwed 4 = .ok (.getfield 9, 3) := by decide +kernel
theorem dX3_readOwed_7 : decode cX3_readOwed 7 = .ok (.arraylength, 1) := by decide +kernel
theorem dX3_readOwed_8 : decode cX3_readOwed 8 = .ok (.if_icmp .ge 16, 3) := by decide +kernel
theorem dX3_readOwed_11 : decode cX3_readOwed 11 = .ok (.aload_n 0, 1) := by decide +kernel
theorem dX3_readOwed_12 : decode cX3_readOwed 12 = .ok (.getfield 9, 3) := by decide +kernel
theorem dX3_readOwed_15 : decode cX3_readOwed 15 = .ok (.iload_n 3, 1) := by decide +kernel
theorem dX3_readOwed_16 : decode cX3_readOwed 16 = .ok (.iconst 0, 1) := by decide +kernel
theorem dX3_readOwed_17 : decode cX3_readOwed 17 = .ok (.iastore, 1) := by decide +kernel
theorem dX3_readOwed_18 : decode cX3_readOwed 18 = .ok (.iinc 3 1, 3) := by decide +kernel
theorem dX3_readOwed_21 : decode cX3_readOwed 21 = .ok (.goto (-19), 3) := by decide +kernel
theorem dX3_readOwed_24 : decode cX3_readOwed 24 = .ok (.iconst 0, 1) := by decide +kernel
theorem dX3_readOwed_25 : decode cX3_readOwed 25 = .ok (.istore_n 3, 1) := by decide +kernel
theorem dX3_readOwed_26 : decode cX3_readOwed 26 = .ok (.iload_n 3, 1) := by decide +kernel
theorem dX3_readOwed_27 : decode cX3_readOwed 27 = .ok (.aload_n 1, 1) := by decide +kernel
theorem dX3_readOwed_28 : decode cX3_readOwed 28 = .ok (.iconst 2, 1) := by decide +kernel
theorem dX3_readOwed_29 : decode cX3_readOwed 29 = .ok (.invokevirtual 91, 3) := by decide +kernel
theorem dX3_readOwed_32 : decode cX3_readOwed 32 = .ok (.if_icmp .ge 59, 3) := by decide +kernel
theorem dX3_readOwed_35 : decode cX3_readOwed 35 = .ok (.aload_n 1, 1) := by decide +kernel
theorem dX3_readOwed_36 : decode cX3_readOwed 36 = .ok (.iload_n 3, 1) := by decide +kernel
theorem dX3_readOwed_37 : decode cX3_readOwed 37 = .ok (.iconst (-1), 1) := by decide +kernel
theorem dX3_readOwed_38 : decode cX3_readOwed 38 = .ok (.iconst (-1), 1) := by decide +kernel
theorem dX3_readOwed_39 : decode cX3_readOwed 39 = .ok (.iload_n 2, 1) := by decide +kernel
theorem dX3_readOwed_40 : decode cX3_readOwed 40 = .ok (.invokevirtual 94, 3) := by decide +kernel
theorem dX3_readOwed_43 : decode cX3_readOwed 43 = .ok (.ifCond .eq 42, 3) := by decide +kernel
theorem dX3_readOwed_46 : decode cX3_readOwed 46 = .ok (.aload_n 1, 1) := by decide +kernel
theorem dX3_readOwed_47 : decode cX3_readOwed 47 = .ok (.getfield 98, 3) := by decide +kernel
theorem dX3_readOwed_50 : decode cX3_readOwed 50 = .ok (.iload_n 3, 1) := by decide +kernel
theorem dX3_readOwed_51 : decode cX3_readOwed 51 = .ok (.invokestatic 28, 3) := by decide +kernel
theorem dX3_readOwed_54 : decode cX3_readOwed 54 = .ok (.bipush 8, 2) := by decide +kernel
theorem dX3_readOwed_56 : decode cX3_readOwed 56 = .ok (.imul, 1) := by decide +kernel
theorem dX3_readOwed_57 : decode cX3_readOwed 57 = .ok (.aload_n 1, 1) := by decide +kernel
theorem dX3_readOwed_58 : decode cX3_readOwed 58 = .ok (.getfield 101, 3) := by decide +kernel
theorem dX3_readOwed_61 : decode cX3_readOwed 61 = .ok (.iload_n 3, 1) := by decide +kernel
theorem dX3_readOwed_62 : decode cX3_readOwed 62 = .ok (.invokestatic 28, 3) := by decide +kernel
theorem dX3_readOwed_65 : decode cX3_readOwed 65 = .ok (.iadd, 1) := by decide +kernel
theorem dX3_readOwed_66 : decode cX3_readOwed 66 = .ok (.istore 4, 2) := by decide +kernel
theorem dX3_readOwed_68 : decode cX3_readOwed 68 = .ok (.aload_n 0, 1) := by decide +kernel
theorem dX3_readOwed_69 : decode cX3_readOwed 69 = .ok (.getfield 9, 3) := by decide +kernel
theorem dX3_readOwed_72 : decode cX3_readOwed 72 = .ok (.iload 4, 2) := by decide +kernel
theorem dX3_readOwed_74 : decode cX3_readOwed 74 = .ok (.aload_n 1, 1) := by decide +kernel
theorem dX3_readOwed_75 : decode cX3_readOwed 75 = .ok (.getfield 104, 3) := by decide +kernel
theorem dX3_readOwed_78 : decode cX3_readOwed 78 = .ok (.iload_n 3, 1) := by decide +kernel
theorem dX3_readOwed_79 : decode cX3_readOwed 79 = .ok (.invokestatic 28, 3) := by decide +kernel
theorem dX3_readOwed_82 : decode cX3_readOwed 82 = .ok (.invokestatic 107, 3) := by decide +kernel
theorem dX3_readOwed_85 : decode cX3_readOwed 85 = .ok (.iinc 3 1, 3) := by decide +kernel
theorem dX3_readOwed_88 : decode cX3_readOwed 88 = .ok (.goto (-62), 3) := by decide +kernel
theorem dX3_readOwed_91 : decode cX3_readOwed 91 = .ok (.return_, 1) := by decide +kernel
theorem dX3_owedBetween_0 : decode cX3_owedBetween 0 = .ok (.iload_n 1, 1) := by decide +kernel
theorem dX3_owedBetween_1 : decode cX3_owedBetween 1 = .ok (.bipush 8, 2) := by decide +kernel
theorem dX3_owedBetween_3 : decode cX3_owedBetween 3 = .ok (.imul, 1) := by decide +kernel
theorem dX3_owedBetween_4 : decode cX3_owedBetween 4 = .ok (.iload_n 2, 1) := by decide +kernel
theorem dX3_owedBetween_5 : decode cX3_owedBetween 5 = .ok (.iadd, 1) := by decide +kernel
theorem dX3_owedBetween_6 : decode cX3_owedBetween 6 = .ok (.istore_n 3, 1) := by decide +kernel
theorem dX3_owedBetween_7 : decode cX3_owedBetween 7 = .ok (.iload_n 3, 1) := by decide +kernel
theorem dX3_owedBetween_8 : decode cX3_owedBetween 8 = .ok (.ifCond .lt 21, 3) := by decide +kernel
theorem dX3_owedBetween_11 : decode cX3_owedBetween 11 = .ok (.iload_n 3, 1) := by decide +kernel
theorem dX3_owedBetween_12 : decode cX3_owedBetween 12 = .ok (.aload_n 0, 1) := by decide +kernel
theorem dX3_owedBetween_13 : decode cX3_owedBetween 13 = .ok (.getfield 9, 3) := by decide +kernel
theorem dX3_owedBetween_16 : decode cX3_owedBetween 16 = .ok (.arraylength, 1) := by decide +kernel
theorem dX3_owedBetween_17 : decode cX3_owedBetween 17 = .ok (.if_icmp .ge 12, 3) := by decide +kernel
theorem dX3_owedBetween_20 : decode cX3_owedBetween 20 = .ok (.aload_n 0, 1) := by decide +kernel
theorem dX3_owedBetween_21 : decode cX3_owedBetween 21 = .ok (.getfield 9, 3) := by decide +kernel
theorem dX3_owedBetween_24 : decode cX3_owedBetween 24 = .ok (.iload_n 3, 1) := by decide +kernel
theorem dX3_owedBetween_25 : decode cX3_owedBetween 25 = .ok (.iaload, 1) := by decide +kernel
theorem dX3_owedBetween_26 : decode cX3_owedBetween 26 = .ok (.goto 4, 3) := by decide +kernel
theorem dX3_owedBetween_29 : decode cX3_owedBetween 29 = .ok (.iconst 0, 1) := by decide +kernel
theorem dX3_owedBetween_30 : decode cX3_owedBetween 30 = .ok (.ireturn, 1) := by decide +kernel
set_option maxRecDepth 20000 in
theorem ggX3_measureSteps_X4_put : GoodIn wsX3_measureSteps wsX4_put := goodIn_r _ [5] (by decide +kernel) (by decide +kernel)
set_option maxRecDepth 20000 in
theorem gX3_measureSteps_X4_put_n84 : GoodIn wsX3_measureSteps (wsX4_put) := ggX3_measureSteps_X4_put
set_option maxRecDepth 20000 in
theorem ggX3_measureSteps_X4_at : GoodIn wsX3_measureSteps wsX4_at := goodIn_r _ [7] (by decide +kernel) (by decide +kernel)
set_option maxRecDepth 20000 in
theorem gX3_measureSteps_X4_at_n28 : GoodIn wsX3_measureSteps (wsX4_at) := ggX3_measureSteps_X4_at
set_option maxRecDepth 20000 in
theorem ggX3_measureSteps_X3_owedBetween : GoodIn wsX3_measureSteps wsX3_owedBetween := goodIn_r _ [12, 13, 14, 15, 16, 17, 18] (by decide +kernel) (by decide +kernel)
set_option maxRecDepth 20000 in
theorem gX3_measureSteps_X3_owedBetween : GoodIn wsX3_measureSteps (wsV RX3 39 RX3 yX3_owedBetween wsX3_owedBetween) := goodIn_app (goodIn_of _ (by decide +kernel)) ggX3_measureSteps_X3_owedBetween
theorem dX3_measureSteps_0 : decode cX3_measureSteps 0 = .ok (.iconst 0, 1) := by decide +kernel
theorem dX3_measureSteps_1 : decode cX3_measureSteps 1 = .ok (.istore_n 3, 1) := by decide +kernel
theorem dX3_measureSteps_2 : decode cX3_measureSteps 2 = .ok (.iload_n 3, 1) := by decide +kernel
theorem dX3_measureSteps_3 : decode cX3_measureSteps 3 = .ok (.aload_n 0, 1) := by decide +kernel
theorem dX3_measureSteps_4 : decode cX3_measureSteps 4 = .ok (.getfield 15, 3) := by decide +kernel
theorem dX3_measureSteps_7 : decode cX3_measureSteps 7 = .ok (.arraylength, 1) := by decide +kernel
theorem dX3_measureSteps_8 : decode cX3_measureSteps 8 = .ok (.if_icmp .ge 16, 3) := by decide +kernel
theorem dX3_measureSteps_11 : decode cX3_measureSteps 11 = .ok (.aload_n 0, 1) := by decide +kernel
theorem dX3_measureSteps_12 : decode cX3_measureSteps 12 = .ok (.getfield 15, 3) := by decide +kernel
theorem dX3_measureSteps_15 : decode cX3_measureSteps 15 = .ok (.iload_n 3, 1) := by decide +kernel
theorem dX3_measureSteps_16 : decode cX3_measureSteps 16 = .ok (.iconst 0, 1) := by decide +kernel
theorem dX3_measureSteps_17 : decode cX3_measureSteps 17 = .ok (.iastore, 1) := by decide +kernel
theorem dX3_measureSteps_18 : decode cX3_measureSteps 18 = .ok (.iinc 3 1, 3) := by decide +kernel
theorem dX3_measureSteps_21 : decode cX3_measureSteps 21 = .ok (.goto (-19), 3) := by decide +kernel
theorem dX3_measureSteps_24 : decode cX3_measureSteps 24 = .ok (.aload_n 0, 1) := by decide +kernel
theorem dX3_measureSteps_25 : decode cX3_measureSteps 25 = .ok (.getfield 18, 3) := by decide +kernel
theorem dX3_measureSteps_28 : decode cX3_measureSteps 28 = .ok (.iconst 0, 1) := by decide +kernel
theorem dX3_measureSteps_29 : decode cX3_measureSteps 29 = .ok (.iload_n 1, 1) := by decide +kernel
theorem dX3_measureSteps_30 : decode cX3_measureSteps 30 = .ok (.invokestatic 84, 3) := by decide +kernel
theorem dX3_measureSteps_33 : decode cX3_measureSteps 33 = .ok (.iconst 1, 1) := by decide +kernel
theorem dX3_measureSteps_34 : decode cX3_measureSteps 34 = .ok (.istore_n 3, 1) := by decide +kernel
theorem dX3_measureSteps_35 : decode cX3_measureSteps 35 = .ok (.iconst 0, 1) := by decide +kernel
theorem dX3_measureSteps_36 : decode cX3_measureSteps 36 = .ok (.istore 4, 2) := by decide +kernel
theorem dX3_measureSteps_38 : decode cX3_measureSteps 38 = .ok (.iload 4, 2) := by decide +kernel
theorem dX3_measureSteps_40 : decode cX3_measureSteps 40 = .ok (.bipush 8, 2) := by decide +kernel
theorem dX3_measureSteps_42 : decode cX3_measureSteps 42 = .ok (.if_icmp .ge 104, 3) := by decide +kernel
theorem dX3_measureSteps_45 : decode cX3_measureSteps 45 = .ok (.iload 4, 2) := by decide +kernel
theorem dX3_measureSteps_47 : decode cX3_measureSteps 47 = .ok (.iload_n 3, 1) := by decide +kernel
theorem dX3_measureSteps_48 : decode cX3_measureSteps 48 = .ok (.if_icmp .ge 98, 3) := by decide +kernel
theorem dX3_measureSteps_51 : decode cX3_measureSteps 51 = .ok (.aload_n 0, 1) := by decide +kernel
theorem dX3_measureSteps_52 : decode cX3_measureSteps 52 = .ok (.getfield 18, 3) := by decide +kernel
theorem dX3_measureSteps_55 : decode cX3_measureSteps 55 = .ok (.iload 4, 2) := by decide +kernel
theorem dX3_measureSteps_57 : decode cX3_measureSteps 57 = .ok (.invokestatic 28, 3) := by decide +kernel
theorem dX3_measureSteps_60 : decode cX3_measureSteps 60 = .ok (.istore 5, 2) := by decide +kernel
theorem dX3_measureSteps_62 : decode cX3_measureSteps 62 = .ok (.iload_n 2, 1) := by decide +kernel
theorem dX3_measureSteps_63 : decode cX3_measureSteps 63 = .ok (.istore 6, 2) := by decide +kernel
theorem dX3_measureSteps_65 : decode cX3_measureSteps 65 = .ok (.iload 6, 2) := by decide +kernel
theorem dX3_measureSteps_67 : decode cX3_measureSteps 67 = .ok (.bipush 8, 2) := by decide +kernel
theorem dX3_measureSteps_69 : decode cX3_measureSteps 69 = .ok (.if_icmp .ge 71, 3) := by decide +kernel
theorem dX3_measureSteps_72 : decode cX3_measureSteps 72 = .ok (.iload 6, 2) := by decide +kernel
theorem dX3_measureSteps_74 : decode cX3_measureSteps 74 = .ok (.iload_n 1, 1) := by decide +kernel
theorem dX3_measureSteps_75 : decode cX3_measureSteps 75 = .ok (.if_icmp .eq 59, 3) := by decide +kernel
theorem dX3_measureSteps_78 : decode cX3_measureSteps 78 = .ok (.aload_n 0, 1) := by decide +kernel
theorem dX3_measureSteps_79 : decode cX3_measureSteps 79 = .ok (.getfield 15, 3) := by decide +kernel
theorem dX3_measureSteps_82 : decode cX3_measureSteps 82 = .ok (.iload 6, 2) := by decide +kernel
theorem dX3_measureSteps_84 : decode cX3_measureSteps 84 = .ok (.invokestatic 28, 3) := by decide +kernel
theorem dX3_measureSteps_87 : decode cX3_measureSteps 87 = .ok (.ifCond .ne 47, 3) := by decide +kernel
theorem dX3_measureSteps_90 : decode cX3_measureSteps 90 = .ok (.aload_n 0, 1) := by decide +kernel
theorem dX3_measureSteps_91 : decode cX3_measureSteps 91 = .ok (.iload 6, 2) := by decide +kernel
theorem dX3_measureSteps_93 : decode cX3_measureSteps 93 = .ok (.iload 5, 2) := by decide +kernel
theorem dX3_measureSteps_95 : decode cX3_measureSteps 95 = .ok (.invokevirtual 39, 3) := by decide +kernel
theorem dX3_measureSteps_98 : decode cX3_measureSteps 98 = .ok (.ifCond .le 36, 3) := by decide +kernel
theorem dX3_measureSteps_101 : decode cX3_measureSteps 101 = .ok (.aload_n 0, 1) := by decide +kernel
theorem dX3_measureSteps_102 : decode cX3_measureSteps 102 = .ok (.getfield 15, 3) := by decide +kernel
theorem dX3_measureSteps_105 : decode cX3_measureSteps 105 = .ok (.iload 6, 2) := by decide +kernel
theorem dX3_measureSteps_107 : decode cX3_measureSteps 107 = .ok (.aload_n 0, 1) := by decide +kernel
theorem dX3_measureSteps_108 : decode cX3_measureSteps 108 = .ok (.getfield 15, 3) := by decide +kernel
theorem dX3_measureSteps_111 : decode cX3_measureSteps 111 = .ok (.iload 5, 2) := by decide +kernel
theorem dX3_measureSteps_113 : decode cX3_measureSteps 113 = .ok (.invokestatic 28, 3) := by decide +kernel
theorem dX3_measureSteps_116 : decode cX3_measureSteps 116 = .ok (.iconst 1, 1) := by decide +kernel
theorem dX3_measureSteps_117 : decode cX3_measureSteps 117 = .ok (.iadd, 1) := by decide +kernel
theorem dX3_measureSteps_118 : decode cX3_measureSteps 118 = .ok (.invokestatic 84, 3) := by decide +kernel
theorem dX3_measureSteps_121 : decode cX3_measureSteps 121 = .ok (.aload_n 0, 1) := by decide +kernel
theorem dX3_measureSteps_122 : decode cX3_measureSteps 122 = .ok (.getfield 18, 3) := by decide +kernel
theorem dX3_measureSteps_125 : decode cX3_measureSteps 125 = .ok (.iload_n 3, 1) := by decide +kernel
theorem dX3_measureSteps_126 : decode cX3_measureSteps 126 = .ok (.iload 6, 2) := by decide +kernel
theorem dX3_measureSteps_128 : decode cX3_measureSteps 128 = .ok (.invokestatic 84, 3) := by decide +kernel
theorem dX3_measureSteps_131 : decode cX3_measureSteps 131 = .ok (.iinc 3 1, 3) := by decide +kernel
theorem dX3_measureSteps_134 : decode cX3_measureSteps 134 = .ok (.iinc 6 1, 3) := by decide +kernel
theorem dX3_measureSteps_137 : decode cX3_measureSteps 137 = .ok (.goto (-72), 3) := by decide +kernel
theorem dX3_measureSteps_140 : decode cX3_measureSteps 140 = .ok (.iinc 4 1, 3) := by decide +kernel
theorem dX3_measureSteps_143 : decode cX3_measureSteps 143 = .ok (.goto (-105), 3) := by decide +kernel
theorem dX3_measureSteps_146 : decode cX3_measureSteps 146 = .ok (.return_, 1) := by decide +kernel
set_option maxRecDepth 20000 in
theorem ggX3_shortestFrom_X4_at : GoodIn wsX3_shortestFrom wsX4_at := goodIn_r _ [4] (by decide +kernel) (by decide +kernel)
set_option maxRecDepth 20000 in
theorem gX3_shortestFrom_X4_at_n28 : GoodIn wsX3_shortestFrom (wsX4_at) := ggX3_shortestFrom_X4_at
set_option maxRecDepth 20000 in
theorem ggX3_shortestFrom_X3_owedBetween : GoodIn wsX3_shortestFrom wsX3_owedBetween := goodIn_r _ [9, 10, 11, 12, 13, 14, 15] (by decide +kernel) (by decide +kernel)
set_option maxRecDepth 20000 in
theorem gX3_shortestFrom_X3_owedBetween : GoodIn wsX3_shortestFrom (wsV RX3 39 RX3 yX3_owedBetween wsX3_owedBetween) := goodIn_app (goodIn_of _ (by decide +kernel)) ggX3_shortestFrom_X3_owedBetween
theorem dX3_shortestFrom_0 : decode cX3_shortestFrom 0 = .ok (.iconst 0, 1) := by decide +kernel
theorem dX3_shortestFrom_1 : decode cX3_shortestFrom 1 = .ok (.istore_n 2, 1) := by decide +kernel
theorem dX3_shortestFrom_2 : decode cX3_shortestFrom 2 = .ok (.iload_n 1, 1) := by decide +kernel
theorem dX3_shortestFrom_3 : decode cX3_shortestFrom 3 = .ok (.iconst 1, 1) := by decide +kernel
theorem dX3_shortestFrom_4 : decode cX3_shortestFrom 4 = .ok (.iadd, 1) := by decide +kernel
theorem dX3_shortestFrom_5 : decode cX3_shortestFrom 5 = .ok (.istore_n 3, 1) := by decide +kernel
theorem dX3_shortestFrom_6 : decode cX3_shortestFrom 6 = .ok (.iload_n 3, 1) := by decide +kernel
theorem dX3_shortestFrom_7 : decode cX3_shortestFrom 7 = .ok (.bipush 8, 2) := by decide +kernel
theorem dX3_shortestFrom_9 : decode cX3_shortestFrom 9 = .ok (.if_icmp .ge 61, 3) := by decide +kernel
theorem dX3_shortestFrom_12 : decode cX3_shortestFrom 12 = .ok (.aload_n 0, 1) := by decide +kernel
theorem dX3_shortestFrom_13 : decode cX3_shortestFrom 13 = .ok (.getfield 15, 3) := by decide +kernel
theorem dX3_shortestFrom_16 : decode cX3_shortestFrom 16 = .ok (.iload_n 3, 1) := by decide +kernel
theorem dX3_shortestFrom_17 : decode cX3_shortestFrom 17 = .ok (.invokestatic 28, 3) := by decide +kernel
theorem dX3_shortestFrom_20 : decode cX3_shortestFrom 20 = .ok (.iconst 1, 1) := by decide +kernel
theorem dX3_shortestFrom_21 : decode cX3_shortestFrom 21 = .ok (.iadd, 1) := by decide +kernel
theorem dX3_shortestFrom_22 : decode cX3_shortestFrom 22 = .ok (.istore 4, 2) := by decide +kernel
theorem dX3_shortestFrom_24 : decode cX3_shortestFrom 24 = .ok (.iload 4, 2) := by decide +kernel
theorem dX3_shortestFrom_26 : decode cX3_shortestFrom 26 = .ok (.iconst 1, 1) := by decide +kernel
theorem dX3_shortestFrom_27 : decode cX3_shortestFrom 27 = .ok (.if_icmp .le 16, 3) := by decide +kernel
theorem dX3_shortestFrom_30 : decode cX3_shortestFrom 30 = .ok (.aload_n 0, 1) := by decide +kernel
theorem dX3_shortestFrom_31 : decode cX3_shortestFrom 31 = .ok (.iload_n 1, 1) := by decide +kernel
theorem dX3_shortestFrom_32 : decode cX3_shortestFrom 32 = .ok (.iload_n 3, 1) := by decide +kernel
theorem dX3_shortestFrom_33 : decode cX3_shortestFrom 33 = .ok (.invokevirtual 39, 3) := by decide +kernel
theorem dX3_shortestFrom_36 : decode cX3_shortestFrom 36 = .ok (.ifCond .le 7, 3) := by decide +kernel
theorem dX3_shortestFrom_39 : decode cX3_shortestFrom 39 = .ok (.iconst 1, 1) := by decide +kernel
theorem dX3_shortestFrom_40 : decode cX3_shortestFrom 40 = .ok (.goto 4, 3) := by decide +kernel
theorem dX3_shortestFrom_43 : decode cX3_shortestFrom 43 = .ok (.iconst 0, 1) := by decide +kernel
theorem dX3_shortestFrom_44 : decode cX3_shortestFrom 44 = .ok (.istore 5, 2) := by decide +kernel
theorem dX3_shortestFrom_46 : decode cX3_shortestFrom 46 = .ok (.iload 5, 2) := by decide +kernel
theorem dX3_shortestFrom_48 : decode cX3_shortestFrom 48 = .ok (.ifCond .eq 16, 3) := by decide +kernel
theorem dX3_shortestFrom_51 : decode cX3_shortestFrom 51 = .ok (.iload_n 2, 1) := by decide +kernel
theorem dX3_shortestFrom_52 : decode cX3_shortestFrom 52 = .ok (.ifCond .eq 9, 3) := by decide +kernel
theorem dX3_shortestFrom_55 : decode cX3_shortestFrom 55 = .ok (.iload 4, 2) := by decide +kernel
theorem dX3_shortestFrom_57 : decode cX3_shortestFrom 57 = .ok (.iload_n 2, 1) := by decide +kernel
theorem dX3_shortestFrom_58 : decode cX3_shortestFrom 58 = .ok (.if_icmp .ge 6, 3) := by decide +kernel
theorem dX3_shortestFrom_61 : decode cX3_shortestFrom 61 = .ok (.iload 4, 2) := by decide +kernel
theorem dX3_shortestFrom_63 : decode cX3_shortestFrom 63 = .ok (.istore_n 2, 1) := by decide +kernel
theorem dX3_shortestFrom_64 : decode cX3_shortestFrom 64 = .ok (.iinc 3 1, 3) := by decide +kernel
theorem dX3_shortestFrom_67 : decode cX3_shortestFrom 67 = .ok (.goto (-61), 3) := by decide +kernel
theorem dX3_shortestFrom_70 : decode cX3_shortestFrom 70 = .ok (.iload_n 2, 1) := by decide +kernel
theorem dX3_shortestFrom_71 : decode cX3_shortestFrom 71 = .ok (.ireturn, 1) := by decide +kernel
set_option maxRecDepth 20000 in
theorem ggX3_lowestBehind_X4_at : GoodIn wsX3_lowestBehind wsX4_at := goodIn_r _ [4] (by decide +kernel) (by decide +kernel)
set_option maxRecDepth 20000 in
theorem gX3_lowestBehind_X4_at_n28 : GoodIn wsX3_lowestBehind (wsX4_at) := ggX3_lowestBehind_X4_at
set_option maxRecDepth 20000 in
theorem ggX3_lowestBehind_X3_owedBetween : GoodIn wsX3_lowestBehind wsX3_owedBetween := goodIn_r _ [9, 10, 11, 12, 13, 14, 15] (by decide +kernel) (by decide +kernel)
set_option maxRecDepth 20000 in
theorem gX3_lowestBehind_X3_owedBetween : GoodIn wsX3_lowestBehind (wsV RX3 39 RX3 yX3_owedBetween wsX3_owedBetween) := goodIn_app (goodIn_of _ (by decide +kernel)) ggX3_lowestBehind_X3_owedBetween
theorem dX3_lowestBehind_0 : decode cX3_lowestBehind 0 = .ok (.iconst 0, 1) := by decide +kernel
theorem dX3_lowestBehind_1 : decode cX3_lowestBehind 1 = .ok (.istore_n 3, 1) := by decide +kernel
theorem dX3_lowestBehind_2 : decode cX3_lowestBehind 2 = .ok (.iload_n 3, 1) := by decide +kernel
theorem dX3_lowestBehind_3 : decode cX3_lowestBehind 3 = .ok (.bipush 8, 2) := by decide +kernel
theorem dX3_lowestBehind_5 : decode cX3_lowestBehind 5 = .ok (.if_icmp .ge 32, 3) := by decide +kernel
theorem dX3_lowestBehind_8 : decode cX3_lowestBehind 8 = .ok (.aload_n 0, 1) := by decide +kernel
theorem dX3_lowestBehind_9 : decode cX3_lowestBehind 9 = .ok (.getfield 15, 3) := by decide +kernel
theorem dX3_lowestBehind_12 : decode cX3_lowestBehind 12 = .ok (.iload_n 3, 1) := by decide +kernel
theorem dX3_lowestBehind_13 : decode cX3_lowestBehind 13 = .ok (.invokestatic 28, 3) := by decide +kernel
theorem dX3_lowestBehind_16 : decode cX3_lowestBehind 16 = .ok (.iload_n 2, 1) := by decide +kernel
theorem dX3_lowestBehind_17 : decode cX3_lowestBehind 17 = .ok (.if_icmp .ne 14, 3) := by decide +kernel
theorem dX3_lowestBehind_20 : decode cX3_lowestBehind 20 = .ok (.aload_n 0, 1) := by decide +kernel
theorem dX3_lowestBehind_21 : decode cX3_lowestBehind 21 = .ok (.iload_n 1, 1) := by decide +kernel
theorem dX3_lowestBehind_22 : decode cX3_lowestBehind 22 = .ok (.iload_n 3, 1) := by decide +kernel
theorem dX3_lowestBehind_23 : decode cX3_lowestBehind 23 = .ok (.invokevirtual 39, 3) := by decide +kernel
theorem dX3_lowestBehind_26 : decode cX3_lowestBehind 26 = .ok (.ifCond .le 5, 3) := by decide +kernel
theorem dX3_lowestBehind_29 : decode cX3_lowestBehind 29 = .ok (.iload_n 3, 1) := by decide +kernel
theorem dX3_lowestBehind_30 : decode cX3_lowestBehind 30 = .ok (.ireturn, 1) := by decide +kernel
theorem dX3_lowestBehind_31 : decode cX3_lowestBehind 31 = .ok (.iinc 3 1, 3) := by decide +kernel
theorem dX3_lowestBehind_34 : decode cX3_lowestBehind 34 = .ok (.goto (-32), 3) := by decide +kernel
theorem dX3_lowestBehind_37 : decode cX3_lowestBehind 37 = .ok (.iconst (-1), 1) := by decide +kernel
theorem dX3_lowestBehind_38 : decode cX3_lowestBehind 38 = .ok (.ireturn, 1) := by decide +kernel
set_option maxRecDepth 20000 in
theorem ggX3_pupilBehind_X4_at : GoodIn wsX3_pupilBehind wsX4_at := goodIn_r _ [5] (by decide +kernel) (by decide +kernel)
set_option maxRecDepth 20000 in
theorem gX3_pupilBehind_X4_at_n28 : GoodIn wsX3_pupilBehind (wsX4_at) := ggX3_pupilBehind_X4_at
theorem dX3_pupilBehind_0 : decode cX3_pupilBehind 0 = .ok (.aload_n 0, 1) := by decide +kernel
theorem dX3_pupilBehind_1 : decode cX3_pupilBehind 1 = .ok (.getfield 21, 3) := by decide +kernel
theorem dX3_pupilBehind_4 : decode cX3_pupilBehind 4 = .ok (.iload_n 1, 1) := by decide +kernel
theorem dX3_pupilBehind_5 : decode cX3_pupilBehind 5 = .ok (.iconst 1, 1) := by decide +kernel
theorem dX3_pupilBehind_6 : decode cX3_pupilBehind 6 = .ok (.iadd, 1) := by decide +kernel
theorem dX3_pupilBehind_7 : decode cX3_pupilBehind 7 = .ok (.aload_n 0, 1) := by decide +kernel
theorem dX3_pupilBehind_8 : decode cX3_pupilBehind 8 = .ok (.getfield 24, 3) := by decide +kernel
theorem dX3_pupilBehind_11 : decode cX3_pupilBehind 11 = .ok (.if_icmp .ge 9, 3) := by decide +kernel
theorem dX3_pupilBehind_14 : decode cX3_pupilBehind 14 = .ok (.iload_n 1, 1) := by decide +kernel
theorem dX3_pupilBehind_15 : decode cX3_pupilBehind 15 = .ok (.iconst 1, 1) := by decide +kernel
theorem dX3_pupilBehind_16 : decode cX3_pupilBehind 16 = .ok (.iadd, 1) := by decide +kernel
theorem dX3_pupilBehind_17 : decode cX3_pupilBehind 17 = .ok (.goto 4, 3) := by decide +kernel
theorem dX3_pupilBehind_20 : decode cX3_pupilBehind 20 = .ok (.iconst 0, 1) := by decide +kernel
theorem dX3_pupilBehind_21 : decode cX3_pupilBehind 21 = .ok (.invokestatic 28, 3) := by decide +kernel
theorem dX3_pupilBehind_24 : decode cX3_pupilBehind 24 = .ok (.ireturn, 1) := by decide +kernel

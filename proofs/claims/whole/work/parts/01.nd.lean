set_option maxRecDepth 20000 in
theorem ggX4_init_X0_init : GoodIn wsX4_init wsX0_init := goodIn_r _ [23, 24, 2, 3, 25, 26, 27, 28, 29, 30, 31, 32, 33, 34, 35, 36, 37, 38, 39, 40, 41, 42, 43, 65, 66, 67, 68, 69, 70, 71, 72, 73, 74, 75, 76, 77] (by decide +kernel) (by decide +kernel)
set_option maxRecDepth 20000 in
theorem gX4_init_X0_init : GoodIn wsX4_init (wsX0_init) := ggX4_init_X0_init
set_option maxRecDepth 20000 in
theorem ggX4_init_X1_init : GoodIn wsX4_init wsX1_init := goodIn_r _ [46, 47, 2, 3, 48, 49, 5, 6, 50, 22, 23, 24, 25, 26, 27, 28, 29, 30, 31, 32, 33, 34, 35, 36, 37, 38, 39, 40, 41, 42, 43, 83, 84, 65, 66, 67, 68, 69, 70, 71, 72, 73, 74, 75, 76, 77] (by decide +kernel) (by decide +kernel)
set_option maxRecDepth 20000 in
theorem gX4_init_X1_init : GoodIn wsX4_init (wsX1_init) := ggX4_init_X1_init
set_option maxRecDepth 20000 in
theorem ggX4_init_X3_init : GoodIn wsX4_init wsX3_init := goodIn_r _ [53, 54, 2, 3, 25, 55, 56, 57, 58, 85, 86, 87, 88, 89] (by decide +kernel) (by decide +kernel)
set_option maxRecDepth 20000 in
theorem gX4_init_X3_init : GoodIn wsX4_init (wsX3_init) := ggX4_init_X3_init
set_option maxRecDepth 20000 in
theorem ggX4_init_X2_init : GoodIn wsX4_init wsX2_init := goodIn_r _ [61, 62, 2, 3, 25, 63, 64, 90, 91, 92, 93, 94, 95, 96, 97] (by decide +kernel) (by decide +kernel)
set_option maxRecDepth 20000 in
theorem gX4_init_X2_init : GoodIn wsX4_init (wsX2_init) := ggX4_init_X2_init
theorem dX4_init_0 : decode cX4_init 0 = .ok (.aload_n 0, 1) := by decide +kernel
theorem dX4_init_1 : decode cX4_init 1 = .ok (.invokespecial 1, 3) := by decide +kernel
theorem dX4_init_4 : decode cX4_init 4 = .ok (.aload_n 0, 1) := by decide +kernel
theorem dX4_init_5 : decode cX4_init 5 = .ok (.new 7, 3) := by decide +kernel
theorem dX4_init_8 : decode cX4_init 8 = .ok (.dup, 1) := by decide +kernel
theorem dX4_init_9 : decode cX4_init 9 = .ok (.invokespecial 9, 3) := by decide +kernel
theorem dX4_init_12 : decode cX4_init 12 = .ok (.putfield 10, 3) := by decide +kernel
theorem dX4_init_15 : decode cX4_init 15 = .ok (.aload_n 0, 1) := by decide +kernel
theorem dX4_init_16 : decode cX4_init 16 = .ok (.new 7, 3) := by decide +kernel
theorem dX4_init_19 : decode cX4_init 19 = .ok (.dup, 1) := by decide +kernel
theorem dX4_init_20 : decode cX4_init 20 = .ok (.invokespecial 9, 3) := by decide +kernel
theorem dX4_init_23 : decode cX4_init 23 = .ok (.putfield 16, 3) := by decide +kernel
theorem dX4_init_26 : decode cX4_init 26 = .ok (.aload_n 0, 1) := by decide +kernel
theorem dX4_init_27 : decode cX4_init 27 = .ok (.new 19, 3) := by decide +kernel
theorem dX4_init_30 : decode cX4_init 30 = .ok (.dup, 1) := by decide +kernel
theorem dX4_init_31 : decode cX4_init 31 = .ok (.invokespecial 21, 3) := by decide +kernel
theorem dX4_init_34 : decode cX4_init 34 = .ok (.putfield 22, 3) := by decide +kernel
theorem dX4_init_37 : decode cX4_init 37 = .ok (.aload_n 0, 1) := by decide +kernel
theorem dX4_init_38 : decode cX4_init 38 = .ok (.new 26, 3) := by decide +kernel
theorem dX4_init_41 : decode cX4_init 41 = .ok (.dup, 1) := by decide +kernel
theorem dX4_init_42 : decode cX4_init 42 = .ok (.invokespecial 28, 3) := by decide +kernel
theorem dX4_init_45 : decode cX4_init 45 = .ok (.putfield 29, 3) := by decide +kernel
theorem dX4_init_48 : decode cX4_init 48 = .ok (.aload_n 0, 1) := by decide +kernel
theorem dX4_init_49 : decode cX4_init 49 = .ok (.new 33, 3) := by decide +kernel
theorem dX4_init_52 : decode cX4_init 52 = .ok (.dup, 1) := by decide +kernel
theorem dX4_init_53 : decode cX4_init 53 = .ok (.invokespecial 35, 3) := by decide +kernel
theorem dX4_init_56 : decode cX4_init 56 = .ok (.putfield 36, 3) := by decide +kernel
theorem dX4_init_59 : decode cX4_init 59 = .ok (.return_, 1) := by decide +kernel
set_option maxRecDepth 20000 in
theorem ggX4_pupil_X4_freshTrial : GoodIn wsX4_pupil wsX4_freshTrial := goodIn_r _ [5, 6, 7, 8, 9, 10, 11, 12, 13, 14, 15, 16, 17, 18, 19, 20, 21, 22, 23, 24, 25, 26, 4, 27, 28, 29, 30, 31, 32, 33, 34, 35, 64, 65, 66, 67, 68, 69, 70, 71, 72, 73, 74, 75, 76, 77, 78, 79, 80, 81] (by decide +kernel) (by decide +kernel)
set_option maxRecDepth 20000 in
theorem gX4_pupil_X4_freshTrial : GoodIn wsX4_pupil (wsV RX4 40 RX4 yX4_freshTrial wsX4_freshTrial) := goodIn_app (goodIn_of _ (by decide +kernel)) ggX4_pupil_X4_freshTrial
set_option maxRecDepth 20000 in
theorem ggX4_pupil_X0_addPupil : GoodIn wsX4_pupil wsX0_addPupil := goodIn_r _ [39, 40, 13, 41, 42, 43, 11, 44, 45, 4, 46, 69, 70, 71, 72, 73, 74, 75, 76, 77, 78, 79, 80, 81] (by decide +kernel) (by decide +kernel)
set_option maxRecDepth 20000 in
theorem gX4_pupil_X0_addPupil : GoodIn wsX4_pupil (wsV RX4 44 RX0 yX0_addPupil wsX0_addPupil) := goodIn_app (goodIn_of _ (by decide +kernel)) ggX4_pupil_X0_addPupil
set_option maxRecDepth 20000 in
theorem ggX4_pupil_X4_settled : GoodIn wsX4_pupil wsX4_settled := goodIn_r _ [50, 51, 7, 6, 52, 53, 54, 55, 56, 57, 58, 59, 60, 61, 62, 63, 9, 10, 11, 12, 13, 14, 15, 16, 17, 18, 19, 20, 21, 22, 23, 24, 25, 26, 4, 27, 28, 29, 30, 31, 32, 33, 34, 35, 8, 64, 65, 66, 67, 68, 82, 83, 69, 70, 71, 72, 73, 74, 75, 76, 77, 78, 79, 80, 81] (by decide +kernel) (by decide +kernel)
set_option maxRecDepth 20000 in
theorem gX4_pupil_X4_settled : GoodIn wsX4_pupil (wsV RX4 48 RX4 yX4_settled wsX4_settled) := goodIn_app (goodIn_of _ (by decide +kernel)) ggX4_pupil_X4_settled
theorem dX4_pupil_0 : decode cX4_pupil 0 = .ok (.aload_n 0, 1) := by decide +kernel
theorem dX4_pupil_1 : decode cX4_pupil 1 = .ok (.aload_n 0, 1) := by decide +kernel
theorem dX4_pupil_2 : decode cX4_pupil 2 = .ok (.invokevirtual 40, 3) := by decide +kernel
theorem dX4_pupil_5 : decode cX4_pupil 5 = .ok (.invokevirtual 44, 3) := by decide +kernel
theorem dX4_pupil_8 : decode cX4_pupil 8 = .ok (.invokevirtual 48, 3) := by decide +kernel
theorem dX4_pupil_11 : decode cX4_pupil 11 = .ok (.ireturn, 1) := by decide +kernel
set_option maxRecDepth 20000 in
theorem ggX4_lend_X4_freshTrial : GoodIn wsX4_lend wsX4_freshTrial := goodIn_r _ [5, 6, 7, 8, 9, 10, 11, 12, 13, 14, 15, 16, 17, 18, 19, 20, 21, 22, 23, 24, 25, 26, 4, 27, 28, 29, 30, 31, 32, 33, 34, 35, 102, 103, 104, 105, 106, 107, 108, 109, 110, 111, 112, 113, 114, 115, 116, 117, 118, 119] (by decide +kernel) (by decide +kernel)
set_option maxRecDepth 20000 in
theorem gX4_lend_X4_freshTrial : GoodIn wsX4_lend (wsV RX4 40 RX4 yX4_freshTrial wsX4_freshTrial) := goodIn_app (goodIn_of _ (by decide +kernel)) ggX4_lend_X4_freshTrial
set_option maxRecDepth 20000 in
theorem ggX4_lend_X0_lendFavours : GoodIn wsX4_lend wsX0_lendFavours := goodIn_r _ [39, 40, 41, 42, 14, 13, 43, 44, 45, 11, 46, 47, 48, 49, 50, 51, 52, 53, 54, 55, 4, 56, 57, 58, 59, 60, 61, 62, 16, 63, 64, 65, 66, 23, 67, 68, 69, 70, 20, 21, 22, 71, 72, 73, 74, 75, 76, 17, 77, 78, 79, 80, 24, 25, 81, 82, 83, 84, 107, 108, 109, 110, 111, 112, 113, 114, 115, 116, 117, 118, 119] (by decide +kernel) (by decide +kernel)
set_option maxRecDepth 20000 in
theorem gX4_lend_X0_lendFavours : GoodIn wsX4_lend (wsV RX4 52 RX0 yX0_lendFavours wsX0_lendFavours) := goodIn_app (goodIn_of _ (by decide +kernel)) ggX4_lend_X0_lendFavours
set_option maxRecDepth 20000 in
theorem ggX4_lend_X4_settled : GoodIn wsX4_lend wsX4_settled := goodIn_r _ [88, 89, 7, 6, 90, 91, 92, 93, 94, 95, 96, 97, 98, 99, 100, 101, 9, 10, 11, 12, 13, 14, 15, 16, 17, 18, 19, 20, 21, 22, 23, 24, 25, 26, 4, 27, 28, 29, 30, 31, 32, 33, 34, 35, 8, 102, 103, 104, 105, 106, 120, 121, 107, 108, 109, 110, 111, 112, 113, 114, 115, 116, 117, 118, 119] (by decide +kernel) (by decide +kernel)
set_option maxRecDepth 20000 in
theorem gX4_lend_X4_settled : GoodIn wsX4_lend (wsV RX4 48 RX4 yX4_settled wsX4_settled) := goodIn_app (goodIn_of _ (by decide +kernel)) ggX4_lend_X4_settled
theorem dX4_lend_0 : decode cX4_lend 0 = .ok (.aload_n 0, 1) := by decide +kernel
theorem dX4_lend_1 : decode cX4_lend 1 = .ok (.aload_n 0, 1) := by decide +kernel
theorem dX4_lend_2 : decode cX4_lend 2 = .ok (.invokevirtual 40, 3) := by decide +kernel
theorem dX4_lend_5 : decode cX4_lend 5 = .ok (.iload_n 1, 1) := by decide +kernel
theorem dX4_lend_6 : decode cX4_lend 6 = .ok (.iload_n 2, 1) := by decide +kernel
theorem dX4_lend_7 : decode cX4_lend 7 = .ok (.iload_n 3, 1) := by decide +kernel
theorem dX4_lend_8 : decode cX4_lend 8 = .ok (.iload 4, 2) := by decide +kernel
theorem dX4_lend_10 : decode cX4_lend 10 = .ok (.invokevirtual 52, 3) := by decide +kernel
theorem dX4_lend_13 : decode cX4_lend 13 = .ok (.invokevirtual 48, 3) := by decide +kernel
theorem dX4_lend_16 : decode cX4_lend 16 = .ok (.ireturn, 1) := by decide +kernel
set_option maxRecDepth 20000 in
theorem ggX4_fulfil_X4_freshTrial : GoodIn wsX4_fulfil wsX4_freshTrial := goodIn_r _ [5, 6, 7, 8, 9, 10, 11, 12, 13, 14, 15, 16, 17, 18, 19, 20, 21, 22, 23, 24, 25, 26, 4, 27, 28, 29, 30, 31, 32, 33, 34, 35, 102, 103, 104, 105, 106, 107, 108, 109, 110, 111, 112, 113, 114, 115, 116, 117, 118, 119] (by decide +kernel) (by decide +kernel)
set_option maxRecDepth 20000 in
theorem gX4_fulfil_X4_freshTrial : GoodIn wsX4_fulfil (wsV RX4 40 RX4 yX4_freshTrial wsX4_freshTrial) := goodIn_app (goodIn_of _ (by decide +kernel)) ggX4_fulfil_X4_freshTrial
set_option maxRecDepth 20000 in
theorem ggX4_fulfil_X0_fulfilFavours : GoodIn wsX4_fulfil wsX0_fulfilFavours := goodIn_r _ [39, 40, 41, 14, 15, 13, 42, 43, 44, 11, 45, 46, 47, 48, 49, 50, 51, 52, 53, 54, 4, 55, 56, 57, 58, 59, 60, 61, 23, 62, 63, 64, 65, 20, 21, 22, 66, 67, 68, 69, 70, 71, 72, 29, 30, 31, 73, 74, 75, 76, 24, 77, 78, 79, 80, 81, 82, 25, 83, 84, 107, 108, 109, 110, 111, 112, 113, 114, 115, 116, 117, 118, 119] (by decide +kernel) (by decide +kernel)
set_option maxRecDepth 20000 in
theorem gX4_fulfil_X0_fulfilFavours : GoodIn wsX4_fulfil (wsV RX4 56 RX0 yX0_fulfilFavours wsX0_fulfilFavours) := goodIn_app (goodIn_of _ (by decide +kernel)) ggX4_fulfil_X0_fulfilFavours
set_option maxRecDepth 20000 in
theorem ggX4_fulfil_X4_settled : GoodIn wsX4_fulfil wsX4_settled := goodIn_r _ [88, 89, 7, 6, 90, 91, 92, 93, 94, 95, 96, 97, 98, 99, 100, 101, 9, 10, 11, 12, 13, 14, 15, 16, 17, 18, 19, 20, 21, 22, 23, 24, 25, 26, 4, 27, 28, 29, 30, 31, 32, 33, 34, 35, 8, 102, 103, 104, 105, 106, 120, 121, 107, 108, 109, 110, 111, 112, 113, 114, 115, 116, 117, 118, 119] (by decide +kernel) (by decide +kernel)
set_option maxRecDepth 20000 in
theorem gX4_fulfil_X4_settled : GoodIn wsX4_fulfil (wsV RX4 48 RX4 yX4_settled wsX4_settled) := goodIn_app (goodIn_of _ (by decide +kernel)) ggX4_fulfil_X4_settled
theorem dX4_fulfil_0 : decode cX4_fulfil 0 = .ok (.aload_n 0, 1) := by decide +kernel
theorem dX4_fulfil_1 : decode cX4_fulfil 1 = .ok (.aload_n 0, 1) := by decide +kernel
theorem dX4_fulfil_2 : decode cX4_fulfil 2 = .ok (.invokevirtual 40, 3) := by decide +kernel
theorem dX4_fulfil_5 : decode cX4_fulfil 5 = .ok (.iload_n 1, 1) := by decide +kernel
theorem dX4_fulfil_6 : decode cX4_fulfil 6 = .ok (.iload_n 2, 1) := by decide +kernel
theorem dX4_fulfil_7 : decode cX4_fulfil 7 = .ok (.iload_n 3, 1) := by decide +kernel
theorem dX4_fulfil_8 : decode cX4_fulfil 8 = .ok (.iload 4, 2) := by decide +kernel
theorem dX4_fulfil_10 : decode cX4_fulfil 10 = .ok (.invokevirtual 56, 3) := by decide +kernel
theorem dX4_fulfil_13 : decode cX4_fulfil 13 = .ok (.invokevirtual 48, 3) := by decide +kernel
theorem dX4_fulfil_16 : decode cX4_fulfil 16 = .ok (.ireturn, 1) := by decide +kernel
set_option maxRecDepth 20000 in
theorem ggX4_guarantee_X4_freshTrial : GoodIn wsX4_guarantee wsX4_freshTrial := goodIn_r _ [5, 6, 7, 8, 9, 10, 11, 12, 13, 14, 15, 16, 17, 18, 19, 20, 21, 22, 23, 24, 25, 26, 4, 27, 28, 29, 30, 31, 32, 33, 34, 35, 74, 75, 76, 77, 78, 79, 80, 81, 82, 83, 84, 85, 86, 87, 88, 89, 90, 91] (by decide +kernel) (by decide +kernel)
set_option maxRecDepth 20000 in
theorem gX4_guarantee_X4_freshTrial : GoodIn wsX4_guarantee (wsV RX4 40 RX4 yX4_freshTrial wsX4_freshTrial) := goodIn_app (goodIn_of _ (by decide +kernel)) ggX4_guarantee_X4_freshTrial
set_option maxRecDepth 20000 in
theorem ggX4_guarantee_X0_giveGuarantor : GoodIn wsX4_guarantee wsX0_giveGuarantor := goodIn_r _ [39, 40, 17, 41, 42, 43, 11, 44, 45, 46, 47, 48, 13, 49, 50, 51, 52, 53, 4, 54, 55, 56, 79, 80, 81, 82, 83, 84, 85, 86, 87, 88, 89, 90, 91] (by decide +kernel) (by decide +kernel)
set_option maxRecDepth 20000 in
theorem gX4_guarantee_X0_giveGuarantor : GoodIn wsX4_guarantee (wsV RX4 59 RX0 yX0_giveGuarantor wsX0_giveGuarantor) := goodIn_app (goodIn_of _ (by decide +kernel)) ggX4_guarantee_X0_giveGuarantor
set_option maxRecDepth 20000 in
theorem ggX4_guarantee_X4_settled : GoodIn wsX4_guarantee wsX4_settled := goodIn_r _ [60, 61, 7, 6, 62, 63, 64, 65, 66, 67, 68, 69, 70, 71, 72, 73, 9, 10, 11, 12, 13, 14, 15, 16, 17, 18, 19, 20, 21, 22, 23, 24, 25, 26, 4, 27, 28, 29, 30, 31, 32, 33, 34, 35, 8, 74, 75, 76, 77, 78, 92, 93, 79, 80, 81, 82, 83, 84, 85, 86, 87, 88, 89, 90, 91] (by decide +kernel) (by decide +kernel)
set_option maxRecDepth 20000 in
theorem gX4_guarantee_X4_settled : GoodIn wsX4_guarantee (wsV RX4 48 RX4 yX4_settled wsX4_settled) := goodIn_app (goodIn_of _ (by decide +kernel)) ggX4_guarantee_X4_settled
theorem dX4_guarantee_0 : decode cX4_guarantee 0 = .ok (.aload_n 0, 1) := by decide +kernel
theorem dX4_guarantee_1 : decode cX4_guarantee 1 = .ok (.aload_n 0, 1) := by decide +kernel
theorem dX4_guarantee_2 : decode cX4_guarantee 2 = .ok (.invokevirtual 40, 3) := by decide +kernel
theorem dX4_guarantee_5 : decode cX4_guarantee 5 = .ok (.iload_n 1, 1) := by decide +kernel
theorem dX4_guarantee_6 : decode cX4_guarantee 6 = .ok (.iload_n 2, 1) := by decide +kernel
theorem dX4_guarantee_7 : decode cX4_guarantee 7 = .ok (.invokevirtual 59, 3) := by decide +kernel
theorem dX4_guarantee_10 : decode cX4_guarantee 10 = .ok (.invokevirtual 48, 3) := by decide +kernel
theorem dX4_guarantee_13 : decode cX4_guarantee 13 = .ok (.ireturn, 1) := by decide +kernel
set_option maxRecDepth 20000 in
theorem ggX4_weeks_X4_freshTrial : GoodIn wsX4_weeks wsX4_freshTrial := goodIn_r _ [5, 6, 7, 8, 9, 10, 11, 12, 13, 14, 15, 16, 17, 18, 19, 20, 21, 22, 23, 24, 25, 26, 4, 27, 28, 29, 30, 31, 32, 33, 34, 35, 97, 98, 99, 100, 101, 102, 103, 104, 105, 106, 107, 108, 109, 110, 111, 112, 113, 114] (by decide +kernel) (by decide +kernel)
set_option maxRecDepth 20000 in
theorem gX4_weeks_X4_freshTrial : GoodIn wsX4_weeks (wsV RX4 40 RX4 yX4_freshTrial wsX4_freshTrial) := goodIn_app (goodIn_of _ (by decide +kernel)) ggX4_weeks_X4_freshTrial
set_option maxRecDepth 20000 in
theorem ggX4_weeks_X0_endWeeks : GoodIn wsX4_weeks wsX0_endWeeks := goodIn_r _ [39, 40, 41, 42, 43, 44, 11, 45, 13, 46, 47, 48, 49, 24, 50, 4, 51, 52, 53, 54, 55, 56, 57, 58, 59, 22, 60, 61, 62, 63, 64, 65, 20, 21, 25, 23, 14, 18, 66, 67, 68, 69, 17, 70, 71, 72, 73, 74, 75, 16, 76, 77, 78, 79, 102, 103, 104, 105, 106, 107, 108, 109, 110, 111, 112, 113, 114] (by decide +kernel) (by decide +kernel)
set_option maxRecDepth 20000 in
theorem gX4_weeks_X0_endWeeks : GoodIn wsX4_weeks (wsV RX4 63 RX0 yX0_endWeeks wsX0_endWeeks) := goodIn_app (goodIn_of _ (by decide +kernel)) ggX4_weeks_X0_endWeeks
set_option maxRecDepth 20000 in
theorem ggX4_weeks_X4_settled : GoodIn wsX4_weeks wsX4_settled := goodIn_r _ [83, 84, 7, 6, 85, 86, 87, 88, 89, 90, 91, 92, 93, 94, 95, 96, 9, 10, 11, 12, 13, 14, 15, 16, 17, 18, 19, 20, 21, 22, 23, 24, 25, 26, 4, 27, 28, 29, 30, 31, 32, 33, 34, 35, 8, 97, 98, 99, 100, 101, 115, 116, 102, 103, 104, 105, 106, 107, 108, 109, 110, 111, 112, 113, 114] (by decide +kernel) (by decide +kernel)
set_option maxRecDepth 20000 in
theorem gX4_weeks_X4_settled : GoodIn wsX4_weeks (wsV RX4 48 RX4 yX4_settled wsX4_settled) := goodIn_app (goodIn_of _ (by decide +kernel)) ggX4_weeks_X4_settled
theorem dX4_weeks_0 : decode cX4_weeks 0 = .ok (.aload_n 0, 1) := by decide +kernel
theorem dX4_weeks_1 : decode cX4_weeks 1 = .ok (.aload_n 0, 1) := by decide +kernel
theorem dX4_weeks_2 : decode cX4_weeks 2 = .ok (.invokevirtual 40, 3) := by decide +kernel
theorem dX4_weeks_5 : decode cX4_weeks 5 = .ok (.iload_n 1, 1) := by decide +kernel
theorem dX4_weeks_6 : decode cX4_weeks 6 = .ok (.invokevirtual 63, 3) := by decide +kernel
theorem dX4_weeks_9 : decode cX4_weeks 9 = .ok (.invokevirtual 48, 3) := by decide +kernel
theorem dX4_weeks_12 : decode cX4_weeks 12 = .ok (.ireturn, 1) := by decide +kernel
set_option maxRecDepth 20000 in
theorem ggX4_holiday_X4_freshTrial : GoodIn wsX4_holiday wsX4_freshTrial := goodIn_r _ [5, 6, 7, 8, 9, 10, 11, 12, 13, 14, 15, 16, 17, 18, 19, 20, 21, 22, 23, 24, 25, 26, 4, 27, 28, 29, 30, 31, 32, 33, 34, 35, 63, 64, 65, 66, 67, 68, 69, 70, 71, 72, 73, 74, 75, 76, 77, 78, 79, 80] (by decide +kernel) (by decide +kernel)
set_option maxRecDepth 20000 in
theorem gX4_holiday_X4_freshTrial : GoodIn wsX4_holiday (wsV RX4 40 RX4 yX4_freshTrial wsX4_freshTrial) := goodIn_app (goodIn_of _ (by decide +kernel)) ggX4_holiday_X4_freshTrial
set_option maxRecDepth 20000 in
theorem ggX4_holiday_X0_turnHolidays : GoodIn wsX4_holiday wsX0_turnHolidays := goodIn_r _ [39, 13, 40, 41, 42, 11, 43, 44, 4, 45, 68, 69, 70, 71, 72, 73, 74, 75, 76, 77, 78, 79, 80] (by decide +kernel) (by decide +kernel)
set_option maxRecDepth 20000 in
theorem gX4_holiday_X0_turnHolidays : GoodIn wsX4_holiday (wsV RX4 66 RX0 yX0_turnHolidays wsX0_turnHolidays) := goodIn_app (goodIn_of _ (by decide +kernel)) ggX4_holiday_X0_turnHolidays
set_option maxRecDepth 20000 in
theorem ggX4_holiday_X4_settled : GoodIn wsX4_holiday wsX4_settled := goodIn_r _ [49, 50, 7, 6, 51, 52, 53, 54, 55, 56, 57, 58, 59, 60, 61, 62, 9, 10, 11, 12, 13, 14, 15, 16, 17, 18, 19, 20, 21, 22, 23, 24, 25, 26, 4, 27, 28, 29, 30, 31, 32, 33, 34, 35, 8, 63, 64, 65, 66, 67, 81, 82, 68, 69, 70, 71, 72, 73, 74, 75, 76, 77, 78, 79, 80] (by decide +kernel) (by decide +kernel)
set_option maxRecDepth 20000 in
theorem gX4_holiday_X4_settled : GoodIn wsX4_holiday (wsV RX4 48 RX4 yX4_settled wsX4_settled) := goodIn_app (goodIn_of _ (by decide +kernel)) ggX4_holiday_X4_settled
theorem dX4_holiday_0 : decode cX4_holiday 0 = .ok (.aload_n 0, 1) := by decide +kernel
theorem dX4_holiday_1 : decode cX4_holiday 1 = .ok (.aload_n 0, 1) := by decide +kernel
theorem dX4_holiday_2 : decode cX4_holiday 2 = .ok (.invokevirtual 40, 3) := by decide +kernel
theorem dX4_holiday_5 : decode cX4_holiday 5 = .ok (.iload_n 1, 1) := by decide +kernel
theorem dX4_holiday_6 : decode cX4_holiday 6 = .ok (.invokevirtual 66, 3) := by decide +kernel
theorem dX4_holiday_9 : decode cX4_holiday 9 = .ok (.invokevirtual 48, 3) := by decide +kernel
theorem dX4_holiday_12 : decode cX4_holiday 12 = .ok (.ireturn, 1) := by decide +kernel
set_option maxRecDepth 20000 in
theorem ggX4_clear_X4_freshTrial : GoodIn wsX4_clear wsX4_freshTrial := goodIn_r _ [6, 7, 8, 9, 10, 11, 12, 13, 14, 15, 16, 17, 18, 19, 20, 21, 22, 23, 24, 25, 26, 27, 5, 28, 29, 30, 31, 32, 33, 34, 35, 36, 141, 142, 143, 144, 145, 146, 147, 148, 149, 150, 151, 152, 153, 154, 155, 156, 157, 158] (by decide +kernel) (by decide +kernel)
set_option maxRecDepth 20000 in
theorem gX4_clear_X4_freshTrial : GoodIn wsX4_clear (wsV RX4 40 RX4 yX4_freshTrial wsX4_freshTrial) := goodIn_app (goodIn_of _ (by decide +kernel)) ggX4_clear_X4_freshTrial
set_option maxRecDepth 20000 in
theorem ggX4_clear_X3_clearKind : GoodIn wsX4_clear wsX3_clearKind := goodIn_r _ [41, 42, 43, 44, 5, 45, 46, 47, 48, 40, 49, 50, 51, 52, 53, 54, 55, 56, 57, 58, 12, 59, 14, 60, 61, 62, 63, 21, 22, 23, 64, 65, 66, 67, 68, 69, 70, 71, 72, 73, 74, 75, 76, 77, 78, 79, 80, 81, 82, 83, 84, 85, 86, 87, 88, 89, 90, 91, 92, 93, 94, 95, 96, 30, 31, 32, 97, 98, 99, 100, 101, 102, 103, 104, 24, 105, 106, 107, 108, 109, 25, 110, 111, 112, 113, 114, 115, 26, 116, 117, 118, 119, 20, 120, 121, 122, 123, 159, 160, 161, 162, 163, 146, 147, 148, 149, 150, 151, 152, 153, 154, 155, 156, 157, 158] (by decide +kernel) (by decide +kernel)
set_option maxRecDepth 20000 in
theorem gX4_clear_X3_clearKind : GoodIn wsX4_clear (wsV RX4 70 RX3 yX3_clearKind wsX3_clearKind) := goodIn_app (goodIn_of _ (by decide +kernel)) ggX4_clear_X3_clearKind
set_option maxRecDepth 20000 in
theorem ggX4_clear_X4_settled : GoodIn wsX4_clear wsX4_settled := goodIn_r _ [127, 128, 8, 7, 129, 130, 131, 132, 133, 134, 135, 136, 137, 138, 139, 140, 10, 11, 12, 13, 14, 15, 16, 17, 18, 19, 20, 21, 22, 23, 24, 25, 26, 27, 5, 28, 29, 30, 31, 32, 33, 34, 35, 36, 9, 141, 142, 143, 144, 145, 164, 165, 146, 147, 148, 149, 150, 151, 152, 153, 154, 155, 156, 157, 158] (by decide +kernel) (by decide +kernel)
set_option maxRecDepth 20000 in
theorem gX4_clear_X4_settled : GoodIn wsX4_clear (wsV RX4 48 RX4 yX4_settled wsX4_settled) := goodIn_app (goodIn_of _ (by decide +kernel)) ggX4_clear_X4_settled
theorem dX4_clear_0 : decode cX4_clear 0 = .ok (.aload_n 0, 1) := by decide +kernel
theorem dX4_clear_1 : decode cX4_clear 1 = .ok (.aload_n 0, 1) := by decide +kernel
theorem dX4_clear_2 : decode cX4_clear 2 = .ok (.getfield 29, 3) := by decide +kernel
theorem dX4_clear_5 : decode cX4_clear 5 = .ok (.aload_n 0, 1) := by decide +kernel
theorem dX4_clear_6 : decode cX4_clear 6 = .ok (.invokevirtual 40, 3) := by decide +kernel
theorem dX4_clear_9 : decode cX4_clear 9 = .ok (.iload_n 1, 1) := by decide +kernel
theorem dX4_clear_10 : decode cX4_clear 10 = .ok (.invokevirtual 70, 3) := by decide +kernel
theorem dX4_clear_13 : decode cX4_clear 13 = .ok (.invokevirtual 48, 3) := by decide +kernel
theorem dX4_clear_16 : decode cX4_clear 16 = .ok (.ireturn, 1) := by decide +kernel
set_option maxRecDepth 20000 in
theorem ggX4_set_X4_freshTrial : GoodIn wsX4_set wsX4_freshTrial := goodIn_r _ [5, 6, 7, 8, 9, 10, 11, 12, 13, 14, 15, 16, 17, 18, 19, 20, 21, 22, 23, 24, 25, 26, 4, 27, 28, 29, 30, 31, 32, 33, 34, 35, 66, 67, 68, 69, 70, 71, 72, 73, 74, 75, 76, 77, 78, 79, 80, 81, 82, 83] (by decide +kernel) (by decide +kernel)
set_option maxRecDepth 20000 in
theorem gX4_set_X4_freshTrial : GoodIn wsX4_set (wsV RX4 40 RX4 yX4_freshTrial wsX4_freshTrial) := goodIn_app (goodIn_of _ (by decide +kernel)) ggX4_set_X4_freshTrial
set_option maxRecDepth 20000 in
theorem ggX4_set_X0_changeSetting : GoodIn wsX4_set wsX0_changeSetting := goodIn_r _ [39, 40, 13, 41, 4, 42, 43, 44, 45, 11, 46, 47, 48, 71, 72, 73, 74, 75, 76, 77, 78, 79, 80, 81, 82, 83] (by decide +kernel) (by decide +kernel)
set_option maxRecDepth 20000 in
theorem gX4_set_X0_changeSetting : GoodIn wsX4_set (wsV RX4 74 RX0 yX0_changeSetting wsX0_changeSetting) := goodIn_app (goodIn_of _ (by decide +kernel)) ggX4_set_X0_changeSetting
set_option maxRecDepth 20000 in
theorem ggX4_set_X4_settled : GoodIn wsX4_set wsX4_settled := goodIn_r _ [52, 53, 7, 6, 54, 55, 56, 57, 58, 59, 60, 61, 62, 63, 64, 65, 9, 10, 11, 12, 13, 14, 15, 16, 17, 18, 19, 20, 21, 22, 23, 24, 25, 26, 4, 27, 28, 29, 30, 31, 32, 33, 34, 35, 8, 66, 67, 68, 69, 70, 84, 85, 71, 72, 73, 74, 75, 76, 77, 78, 79, 80, 81, 82, 83] (by decide +kernel) (by decide +kernel)
set_option maxRecDepth 20000 in
theorem gX4_set_X4_settled : GoodIn wsX4_set (wsV RX4 48 RX4 yX4_settled wsX4_settled) := goodIn_app (goodIn_of _ (by decide +kernel)) ggX4_set_X4_settled
theorem dX4_set_0 : decode cX4_set 0 = .ok (.aload_n 0, 1) := by decide +kernel
theorem dX4_set_1 : decode cX4_set 1 = .ok (.aload_n 0, 1) := by decide +kernel
theorem dX4_set_2 : decode cX4_set 2 = .ok (.invokevirtual 40, 3) := by decide +kernel
theorem dX4_set_5 : decode cX4_set 5 = .ok (.iload_n 1, 1) := by decide +kernel
theorem dX4_set_6 : decode cX4_set 6 = .ok (.iload_n 2, 1) := by decide +kernel
theorem dX4_set_7 : decode cX4_set 7 = .ok (.invokevirtual 74, 3) := by decide +kernel
theorem dX4_set_10 : decode cX4_set 10 = .ok (.invokevirtual 48, 3) := by decide +kernel
theorem dX4_set_13 : decode cX4_set 13 = .ok (.ireturn, 1) := by decide +kernel
set_option maxRecDepth 20000 in
theorem ggX4_pupilOf_X0_isPupil : GoodIn wsX4_pupilOf wsX0_isPupil := goodIn_r _ [7, 8, 9, 10, 6, 11, 12, 52, 53, 54, 55, 56, 57, 58, 59, 60, 61, 62, 63, 64] (by decide +kernel) (by decide +kernel)
set_option maxRecDepth 20000 in
theorem gX4_pupilOf_X0_isPupil : GoodIn wsX4_pupilOf (wsV RX4 77 RX0 yX0_isPupil wsX0_isPupil) := goodIn_app (goodIn_of _ (by decide +kernel)) ggX4_pupilOf_X0_isPupil
set_option maxRecDepth 20000 in
theorem ggX4_pupilOf_X0_tellOfPupil : GoodIn wsX4_pupilOf wsX0_tellOfPupil := goodIn_r _ [16, 17, 18, 19, 20, 21, 22, 23, 24, 25, 6, 26, 27, 8, 9, 10, 11, 12, 28, 29, 30, 31, 32, 33, 34, 35, 36, 37, 38, 39, 40, 41, 42, 43, 44, 45, 46, 52, 53, 54, 55, 56, 57, 58, 59, 60, 61, 62, 63, 64] (by decide +kernel) (by decide +kernel)
set_option maxRecDepth 20000 in
theorem gX4_pupilOf_X0_tellOfPupil : GoodIn wsX4_pupilOf (wsV RX4 82 RX0 yX0_tellOfPupil wsX0_tellOfPupil) := goodIn_app (goodIn_of _ (by decide +kernel)) ggX4_pupilOf_X0_tellOfPupil
theorem dX4_pupilOf_0 : decode cX4_pupilOf 0 = .ok (.aload_n 0, 1) := by decide +kernel
theorem dX4_pupilOf_1 : decode cX4_pupilOf 1 = .ok (.getfield 10, 3) := by decide +kernel
theorem dX4_pupilOf_4 : decode cX4_pupilOf 4 = .ok (.iload_n 1, 1) := by decide +kernel
theorem dX4_pupilOf_5 : decode cX4_pupilOf 5 = .ok (.invokevirtual 77, 3) := by decide +kernel
theorem dX4_pupilOf_8 : decode cX4_pupilOf 8 = .ok (.ifCond .eq 13, 3) := by decide +kernel
theorem dX4_pupilOf_11 : decode cX4_pupilOf 11 = .ok (.iload_n 2, 1) := by decide +kernel
theorem dX4_pupilOf_12 : decode cX4_pupilOf 12 = .ok (.ifCond .lt 9, 3) := by decide +kernel
theorem dX4_pupilOf_15 : decode cX4_pupilOf 15 = .ok (.iload_n 2, 1) := by decide +kernel
theorem dX4_pupilOf_16 : decode cX4_pupilOf 16 = .ok (.bipush 9, 2) := by decide +kernel
theorem dX4_pupilOf_18 : decode cX4_pupilOf 18 = .ok (.if_icmp .lt 6, 3) := by decide +kernel
theorem dX4_pupilOf_21 : decode cX4_pupilOf 21 = .ok (.ldc 81, 2) := by decide +kernel
theorem dX4_pupilOf_23 : decode cX4_pupilOf 23 = .ok (.ireturn, 1) := by decide +kernel
theorem dX4_pupilOf_24 : decode cX4_pupilOf 24 = .ok (.aload_n 0, 1) := by decide +kernel
theorem dX4_pupilOf_25 : decode cX4_pupilOf 25 = .ok (.getfield 10, 3) := by decide +kernel
theorem dX4_pupilOf_28 : decode cX4_pupilOf 28 = .ok (.iload_n 1, 1) := by decide +kernel
theorem dX4_pupilOf_29 : decode cX4_pupilOf 29 = .ok (.iload_n 2, 1) := by decide +kernel
theorem dX4_pupilOf_30 : decode cX4_pupilOf 30 = .ok (.invokevirtual 82, 3) := by decide +kernel
theorem dX4_pupilOf_33 : decode cX4_pupilOf 33 = .ok (.ireturn, 1) := by decide +kernel
set_option maxRecDepth 20000 in
theorem ggX4_owes_X0_isPupil : GoodIn wsX4_owes wsX0_isPupil := goodIn_r _ [7, 8, 9, 10, 6, 11, 12, 36, 37, 38, 39, 40, 41, 42, 43, 44, 45, 46, 47, 48] (by decide +kernel) (by decide +kernel)
set_option maxRecDepth 20000 in
theorem gX4_owes_X0_isPupil : GoodIn wsX4_owes (wsV RX4 77 RX0 yX0_isPupil wsX0_isPupil) := goodIn_app (goodIn_of _ (by decide +kernel)) ggX4_owes_X0_isPupil
set_option maxRecDepth 20000 in
theorem ggX4_owes_X4_isKind : GoodIn wsX4_owes wsX4_isKind := goodIn_r _ [16] (by decide +kernel) (by decide +kernel)
set_option maxRecDepth 20000 in
theorem gX4_owes_X4_isKind : GoodIn wsX4_owes (va_wsS RX4 85 yX4_isKind wsX4_isKind) := goodIn_app (goodIn_of _ (by decide +kernel)) ggX4_owes_X4_isKind
set_option maxRecDepth 20000 in
theorem ggX4_owes_X0_sumOwed : GoodIn wsX4_owes wsX0_sumOwed := goodIn_r _ [20, 21, 8, 9, 10, 6, 11, 12, 22, 23, 24, 25, 26, 27, 28, 29, 15, 30, 36, 37, 38, 39, 40, 41, 42, 43, 44, 45, 46, 47, 48] (by decide +kernel) (by decide +kernel)
set_option maxRecDepth 20000 in
theorem gX4_owes_X0_sumOwed : GoodIn wsX4_owes (wsV RX4 88 RX0 yX0_sumOwed wsX0_sumOwed) := goodIn_app (goodIn_of _ (by decide +kernel)) ggX4_owes_X0_sumOwed
theorem dX4_owes_0 : decode cX4_owes 0 = .ok (.aload_n 0, 1) := by decide +kernel
theorem dX4_owes_1 : decode cX4_owes 1 = .ok (.getfield 10, 3) := by decide +kernel
theorem dX4_owes_4 : decode cX4_owes 4 = .ok (.iload_n 1, 1) := by decide +kernel
theorem dX4_owes_5 : decode cX4_owes 5 = .ok (.invokevirtual 77, 3) := by decide +kernel
theorem dX4_owes_8 : decode cX4_owes 8 = .ok (.ifCond .eq 21, 3) := by decide +kernel
theorem dX4_owes_11 : decode cX4_owes 11 = .ok (.aload_n 0, 1) := by decide +kernel
theorem dX4_owes_12 : decode cX4_owes 12 = .ok (.getfield 10, 3) := by decide +kernel
theorem dX4_owes_15 : decode cX4_owes 15 = .ok (.iload_n 2, 1) := by decide +kernel
theorem dX4_owes_16 : decode cX4_owes 16 = .ok (.invokevirtual 77, 3) := by decide +kernel
theorem dX4_owes_19 : decode cX4_owes 19 = .ok (.ifCond .eq 10, 3) := by decide +kernel
theorem dX4_owes_22 : decode cX4_owes 22 = .ok (.iload_n 3, 1) := by decide +kernel
theorem dX4_owes_23 : decode cX4_owes 23 = .ok (.invokestatic 85, 3) := by decide +kernel
theorem dX4_owes_26 : decode cX4_owes 26 = .ok (.ifCond .ne 6, 3) := by decide +kernel
theorem dX4_owes_29 : decode cX4_owes 29 = .ok (.ldc 81, 2) := by decide +kernel
theorem dX4_owes_31 : decode cX4_owes 31 = .ok (.ireturn, 1) := by decide +kernel
theorem dX4_owes_32 : decode cX4_owes 32 = .ok (.aload_n 0, 1) := by decide +kernel
theorem dX4_owes_33 : decode cX4_owes 33 = .ok (.getfield 10, 3) := by decide +kernel
theorem dX4_owes_36 : decode cX4_owes 36 = .ok (.iload_n 1, 1) := by decide +kernel
theorem dX4_owes_37 : decode cX4_owes 37 = .ok (.iload_n 2, 1) := by decide +kernel
theorem dX4_owes_38 : decode cX4_owes 38 = .ok (.iload_n 3, 1) := by decide +kernel
theorem dX4_owes_39 : decode cX4_owes 39 = .ok (.invokevirtual 88, 3) := by decide +kernel
theorem dX4_owes_42 : decode cX4_owes 42 = .ok (.ireturn, 1) := by decide +kernel
set_option maxRecDepth 20000 in
theorem ggX4_lot_X0_number : GoodIn wsX4_lot wsX0_number := goodIn_r _ [8, 9, 28, 29, 30, 31, 32, 33, 34, 35, 36, 37, 38, 39, 40] (by decide +kernel) (by decide +kernel)
set_option maxRecDepth 20000 in
theorem gX4_lot_X0_number : GoodIn wsX4_lot (wsV RX4 92 RX0 yX0_number wsX0_number) := goodIn_app (goodIn_of _ (by decide +kernel)) ggX4_lot_X0_number
set_option maxRecDepth 20000 in
theorem ggX4_lot_X0_tellOfLot : GoodIn wsX4_lot wsX0_tellOfLot := goodIn_r _ [13, 14, 15, 16, 17, 18, 19, 20, 21, 22, 28, 29, 30, 31, 32, 33, 34, 35, 36, 37, 38, 39, 40] (by decide +kernel) (by decide +kernel)
set_option maxRecDepth 20000 in
theorem gX4_lot_X0_tellOfLot : GoodIn wsX4_lot (wsV RX4 95 RX0 yX0_tellOfLot wsX0_tellOfLot) := goodIn_app (goodIn_of _ (by decide +kernel)) ggX4_lot_X0_tellOfLot
theorem dX4_lot_0 : decode cX4_lot 0 = .ok (.iload_n 1, 1) := by decide +kernel
theorem dX4_lot_1 : decode cX4_lot 1 = .ok (.ifCond .lt 13, 3) := by decide +kernel
theorem dX4_lot_4 : decode cX4_lot 4 = .ok (.iload_n 2, 1) := by decide +kernel
theorem dX4_lot_5 : decode cX4_lot 5 = .ok (.ifCond .lt 9, 3) := by decide +kernel
theorem dX4_lot_8 : decode cX4_lot 8 = .ok (.iload_n 2, 1) := by decide +kernel
theorem dX4_lot_9 : decode cX4_lot 9 = .ok (.bipush 6, 2) := by decide +kernel
theorem dX4_lot_11 : decode cX4_lot 11 = .ok (.if_icmp .lt 6, 3) := by decide +kernel
theorem dX4_lot_14 : decode cX4_lot 14 = .ok (.ldc 81, 2) := by decide +kernel
theorem dX4_lot_16 : decode cX4_lot 16 = .ok (.ireturn, 1) := by decide +kernel
theorem dX4_lot_17 : decode cX4_lot 17 = .ok (.iload_n 1, 1) := by decide +kernel
theorem dX4_lot_18 : decode cX4_lot 18 = .ok (.aload_n 0, 1) := by decide +kernel
theorem dX4_lot_19 : decode cX4_lot 19 = .ok (.getfield 10, 3) := by decide +kernel
theorem dX4_lot_22 : decode cX4_lot 22 = .ok (.iconst 2, 1) := by decide +kernel
theorem dX4_lot_23 : decode cX4_lot 23 = .ok (.invokevirtual 92, 3) := by decide +kernel
theorem dX4_lot_26 : decode cX4_lot 26 = .ok (.if_icmp .ge 15, 3) := by decide +kernel
theorem dX4_lot_29 : decode cX4_lot 29 = .ok (.aload_n 0, 1) := by decide +kernel
theorem dX4_lot_30 : decode cX4_lot 30 = .ok (.getfield 10, 3) := by decide +kernel
theorem dX4_lot_33 : decode cX4_lot 33 = .ok (.iload_n 1, 1) := by decide +kernel
theorem dX4_lot_34 : decode cX4_lot 34 = .ok (.iload_n 2, 1) := by decide +kernel
theorem dX4_lot_35 : decode cX4_lot 35 = .ok (.invokevirtual 95, 3) := by decide +kernel
theorem dX4_lot_38 : decode cX4_lot 38 = .ok (.goto 5, 3) := by decide +kernel
theorem dX4_lot_41 : decode cX4_lot 41 = .ok (.ldc 98, 2) := by decide +kernel
theorem dX4_lot_43 : decode cX4_lot 43 = .ok (.ireturn, 1) := by decide +kernel
set_option maxRecDepth 20000 in
theorem ggX4_why_X0_isPupil : GoodIn wsX4_why wsX0_isPupil := goodIn_r _ [7, 8, 9, 10, 6, 11, 12, 46, 47, 48, 49, 50, 51, 52, 53, 54, 55, 56, 57, 58] (by decide +kernel) (by decide +kernel)
set_option maxRecDepth 20000 in
theorem gX4_why_X0_isPupil : GoodIn wsX4_why (wsV RX4 77 RX0 yX0_isPupil wsX0_isPupil) := goodIn_app (goodIn_of _ (by decide +kernel)) ggX4_why_X0_isPupil
set_option maxRecDepth 20000 in
theorem ggX4_why_X4_isMany : GoodIn wsX4_why wsX4_isMany := goodIn_r _ [16] (by decide +kernel) (by decide +kernel)
set_option maxRecDepth 20000 in
theorem gX4_why_X4_isMany : GoodIn wsX4_why (va_wsS RX4 99 yX4_isMany wsX4_isMany) := goodIn_app (goodIn_of _ (by decide +kernel)) ggX4_why_X4_isMany
set_option maxRecDepth 20000 in
theorem ggX4_why_X0_reasonAgainst : GoodIn wsX4_why wsX0_reasonAgainst := goodIn_r _ [20, 21, 22, 23, 24, 6, 25, 26, 8, 9, 10, 11, 12, 27, 28, 29, 30, 31, 32, 33, 34, 15, 35, 36, 37, 38, 39, 40, 46, 47, 48, 49, 50, 51, 52, 53, 54, 55, 56, 57, 58] (by decide +kernel) (by decide +kernel)
set_option maxRecDepth 20000 in
theorem gX4_why_X0_reasonAgainst : GoodIn wsX4_why (wsV RX4 102 RX0 yX0_reasonAgainst wsX0_reasonAgainst) := goodIn_app (goodIn_of _ (by decide +kernel)) ggX4_why_X0_reasonAgainst
theorem dX4_why_0 : decode cX4_why 0 = .ok (.aload_n 0, 1) := by decide +kernel
theorem dX4_why_1 : decode cX4_why 1 = .ok (.getfield 10, 3) := by decide +kernel
theorem dX4_why_4 : decode cX4_why 4 = .ok (.iload_n 1, 1) := by decide +kernel
theorem dX4_why_5 : decode cX4_why 5 = .ok (.invokevirtual 77, 3) := by decide +kernel
theorem dX4_why_8 : decode cX4_why 8 = .ok (.ifCond .eq 10, 3) := by decide +kernel
theorem dX4_why_11 : decode cX4_why 11 = .ok (.iload_n 2, 1) := by decide +kernel
theorem dX4_why_12 : decode cX4_why 12 = .ok (.invokestatic 99, 3) := by decide +kernel
theorem dX4_why_15 : decode cX4_why 15 = .ok (.ifCond .ne 6, 3) := by decide +kernel
theorem dX4_why_18 : decode cX4_why 18 = .ok (.ldc 81, 2) := by decide +kernel
theorem dX4_why_20 : decode cX4_why 20 = .ok (.ireturn, 1) := by decide +kernel
theorem dX4_why_21 : decode cX4_why 21 = .ok (.aload_n 0, 1) := by decide +kernel
theorem dX4_why_22 : decode cX4_why 22 = .ok (.getfield 10, 3) := by decide +kernel
theorem dX4_why_25 : decode cX4_why 25 = .ok (.iload_n 1, 1) := by decide +kernel
theorem dX4_why_26 : decode cX4_why 26 = .ok (.iload_n 2, 1) := by decide +kernel
theorem dX4_why_27 : decode cX4_why 27 = .ok (.invokevirtual 102, 3) := by decide +kernel
theorem dX4_why_30 : decode cX4_why 30 = .ok (.ireturn, 1) := by decide +kernel
set_option maxRecDepth 20000 in
theorem ggX4_ring_X4_isKind : GoodIn wsX4_ring wsX4_isKind := goodIn_r _ [8] (by decide +kernel) (by decide +kernel)
set_option maxRecDepth 20000 in
theorem gX4_ring_X4_isKind : GoodIn wsX4_ring (va_wsS RX4 85 yX4_isKind wsX4_isKind) := goodIn_app (goodIn_of _ (by decide +kernel)) ggX4_ring_X4_isKind
set_option maxRecDepth 20000 in
theorem ggX4_ring_X3_findNext : GoodIn wsX4_ring wsX3_findNext := goodIn_r _ [13, 14, 15, 16, 17, 18, 12, 19, 20, 21, 22, 23, 24, 25, 26, 27, 28, 29, 30, 31, 32, 33, 34, 7, 35, 36, 37, 38, 39, 40, 41, 42, 43, 44, 45, 46, 47, 48, 49, 50, 51, 52, 53, 54, 55, 56, 57, 58, 59, 60, 61, 72, 73, 74, 75, 76, 77, 78, 79, 80, 81, 82, 83, 84, 85, 86, 87, 88, 89] (by decide +kernel) (by decide +kernel)
set_option maxRecDepth 20000 in
theorem gX4_ring_X3_findNext : GoodIn wsX4_ring (wsV RX4 105 RX3 yX3_findNext wsX3_findNext) := goodIn_app (goodIn_of _ (by decide +kernel)) ggX4_ring_X3_findNext
set_option maxRecDepth 20000 in
theorem ggX4_ring_X3_nextLength : GoodIn wsX4_ring wsX3_nextLength := goodIn_r _ [65, 14, 72, 73, 74, 75, 76] (by decide +kernel) (by decide +kernel)
set_option maxRecDepth 20000 in
theorem gX4_ring_X3_nextLength : GoodIn wsX4_ring (wsV RX4 109 RX3 yX3_nextLength wsX3_nextLength) := goodIn_app (goodIn_of _ (by decide +kernel)) ggX4_ring_X3_nextLength
set_option maxRecDepth 20000 in
theorem ggX4_ring_X3_nextPupil : GoodIn wsX4_ring wsX3_nextPupil := goodIn_r _ [57, 15, 34, 7, 35, 72, 73, 74, 75, 76] (by decide +kernel) (by decide +kernel)
set_option maxRecDepth 20000 in
theorem gX4_ring_X3_nextPupil : GoodIn wsX4_ring (wsV RX4 112 RX3 yX3_nextPupil wsX3_nextPupil) := goodIn_app (goodIn_of _ (by decide +kernel)) ggX4_ring_X3_nextPupil
theorem dX4_ring_0 : decode cX4_ring 0 = .ok (.iload_n 1, 1) := by decide +kernel
theorem dX4_ring_1 : decode cX4_ring 1 = .ok (.invokestatic 85, 3) := by decide +kernel
theorem dX4_ring_4 : decode cX4_ring 4 = .ok (.ifCond .eq 7, 3) := by decide +kernel
theorem dX4_ring_7 : decode cX4_ring 7 = .ok (.iload_n 2, 1) := by decide +kernel
theorem dX4_ring_8 : decode cX4_ring 8 = .ok (.ifCond .ge 6, 3) := by decide +kernel
theorem dX4_ring_11 : decode cX4_ring 11 = .ok (.ldc 81, 2) := by decide +kernel
theorem dX4_ring_13 : decode cX4_ring 13 = .ok (.ireturn, 1) := by decide +kernel
theorem dX4_ring_14 : decode cX4_ring 14 = .ok (.aload_n 0, 1) := by decide +kernel
theorem dX4_ring_15 : decode cX4_ring 15 = .ok (.getfield 29, 3) := by decide +kernel
theorem dX4_ring_18 : decode cX4_ring 18 = .ok (.aload_n 0, 1) := by decide +kernel
theorem dX4_ring_19 : decode cX4_ring 19 = .ok (.getfield 10, 3) := by decide +kernel
theorem dX4_ring_22 : decode cX4_ring 22 = .ok (.iload_n 1, 1) := by decide +kernel
theorem dX4_ring_23 : decode cX4_ring 23 = .ok (.invokevirtual 105, 3) := by decide +kernel
theorem dX4_ring_26 : decode cX4_ring 26 = .ok (.ifCond .eq 14, 3) := by decide +kernel
theorem dX4_ring_29 : decode cX4_ring 29 = .ok (.iload_n 2, 1) := by decide +kernel
theorem dX4_ring_30 : decode cX4_ring 30 = .ok (.aload_n 0, 1) := by decide +kernel
theorem dX4_ring_31 : decode cX4_ring 31 = .ok (.getfield 29, 3) := by decide +kernel
theorem dX4_ring_34 : decode cX4_ring 34 = .ok (.invokevirtual 109, 3) := by decide +kernel
theorem dX4_ring_37 : decode cX4_ring 37 = .ok (.if_icmp .lt 6, 3) := by decide +kernel
theorem dX4_ring_40 : decode cX4_ring 40 = .ok (.ldc 98, 2) := by decide +kernel
theorem dX4_ring_42 : decode cX4_ring 42 = .ok (.ireturn, 1) := by decide +kernel
theorem dX4_ring_43 : decode cX4_ring 43 = .ok (.aload_n 0, 1) := by decide +kernel
theorem dX4_ring_44 : decode cX4_ring 44 = .ok (.getfield 29, 3) := by decide +kernel
theorem dX4_ring_47 : decode cX4_ring 47 = .ok (.iload_n 2, 1) := by decide +kernel
theorem dX4_ring_48 : decode cX4_ring 48 = .ok (.invokevirtual 112, 3) := by decide +kernel
theorem dX4_ring_51 : decode cX4_ring 51 = .ok (.ireturn, 1) := by decide +kernel
set_option maxRecDepth 20000 in
theorem ggX4_amount_X4_isKind : GoodIn wsX4_amount wsX4_isKind := goodIn_r _ [8] (by decide +kernel) (by decide +kernel)
set_option maxRecDepth 20000 in
theorem gX4_amount_X4_isKind : GoodIn wsX4_amount (va_wsS RX4 85 yX4_isKind wsX4_isKind) := goodIn_app (goodIn_of _ (by decide +kernel)) ggX4_amount_X4_isKind
set_option maxRecDepth 20000 in
theorem ggX4_amount_X3_findNext : GoodIn wsX4_amount wsX3_findNext := goodIn_r _ [13, 14, 15, 16, 17, 18, 12, 19, 20, 21, 22, 23, 24, 25, 26, 27, 28, 29, 30, 31, 32, 33, 34, 7, 35, 36, 37, 38, 39, 40, 41, 42, 43, 44, 45, 46, 47, 48, 49, 50, 51, 52, 53, 54, 55, 56, 57, 58, 59, 60, 61, 79, 80, 81, 82, 83, 84, 85, 86, 87, 88, 89, 90, 91, 92, 93, 94, 95, 96] (by decide +kernel) (by decide +kernel)
set_option maxRecDepth 20000 in
theorem gX4_amount_X3_findNext : GoodIn wsX4_amount (wsV RX4 105 RX3 yX3_findNext wsX3_findNext) := goodIn_app (goodIn_of _ (by decide +kernel)) ggX4_amount_X3_findNext
set_option maxRecDepth 20000 in
theorem ggX4_amount_X3_nextAmount : GoodIn wsX4_amount wsX3_nextAmount := goodIn_r _ [65, 14, 66, 67, 68, 69, 54, 55, 56, 12, 57, 15, 34, 7, 35, 70, 71, 72, 73, 46, 47, 48, 49, 20, 79, 80, 81, 82, 83] (by decide +kernel) (by decide +kernel)
set_option maxRecDepth 20000 in
theorem gX4_amount_X3_nextAmount : GoodIn wsX4_amount (wsV RX4 115 RX3 yX3_nextAmount wsX3_nextAmount) := goodIn_app (goodIn_of _ (by decide +kernel)) ggX4_amount_X3_nextAmount
theorem dX4_amount_0 : decode cX4_amount 0 = .ok (.iload_n 1, 1) := by decide +kernel
theorem dX4_amount_1 : decode cX4_amount 1 = .ok (.invokestatic 85, 3) := by decide +kernel
theorem dX4_amount_4 : decode cX4_amount 4 = .ok (.ifCond .ne 6, 3) := by decide +kernel
theorem dX4_amount_7 : decode cX4_amount 7 = .ok (.ldc 81, 2) := by decide +kernel
theorem dX4_amount_9 : decode cX4_amount 9 = .ok (.ireturn, 1) := by decide +kernel
theorem dX4_amount_10 : decode cX4_amount 10 = .ok (.aload_n 0, 1) := by decide +kernel
theorem dX4_amount_11 : decode cX4_amount 11 = .ok (.getfield 29, 3) := by decide +kernel
theorem dX4_amount_14 : decode cX4_amount 14 = .ok (.aload_n 0, 1) := by decide +kernel
theorem dX4_amount_15 : decode cX4_amount 15 = .ok (.getfield 10, 3) := by decide +kernel
theorem dX4_amount_18 : decode cX4_amount 18 = .ok (.iload_n 1, 1) := by decide +kernel
theorem dX4_amount_19 : decode cX4_amount 19 = .ok (.invokevirtual 105, 3) := by decide +kernel
theorem dX4_amount_22 : decode cX4_amount 22 = .ok (.ifCond .eq 13, 3) := by decide +kernel
theorem dX4_amount_25 : decode cX4_amount 25 = .ok (.aload_n 0, 1) := by decide +kernel
theorem dX4_amount_26 : decode cX4_amount 26 = .ok (.getfield 29, 3) := by decide +kernel
theorem dX4_amount_29 : decode cX4_amount 29 = .ok (.invokevirtual 115, 3) := by decide +kernel
theorem dX4_amount_32 : decode cX4_amount 32 = .ok (.goto 5, 3) := by decide +kernel
theorem dX4_amount_35 : decode cX4_amount 35 = .ok (.ldc 98, 2) := by decide +kernel
theorem dX4_amount_37 : decode cX4_amount 37 = .ok (.ireturn, 1) := by decide +kernel
set_option maxRecDepth 20000 in
theorem ggX4_ifCleared_X4_isKind : GoodIn wsX4_ifCleared wsX4_isKind := goodIn_r _ [8] (by decide +kernel) (by decide +kernel)
set_option maxRecDepth 20000 in
theorem gX4_ifCleared_X4_isKind : GoodIn wsX4_ifCleared (va_wsS RX4 85 yX4_isKind wsX4_isKind) := goodIn_app (goodIn_of _ (by decide +kernel)) ggX4_ifCleared_X4_isKind
set_option maxRecDepth 20000 in
theorem ggX4_ifCleared_X4_freshTrial : GoodIn wsX4_ifCleared wsX4_freshTrial := goodIn_r _ [12, 3, 4, 13, 14, 15, 16, 17, 18, 19, 20, 21, 22, 23, 24, 25, 26, 27, 28, 29, 30, 31, 7, 32, 33, 34, 35, 36, 37, 38, 39, 40, 127, 128, 129, 130, 131, 132, 133, 134, 135, 136, 137, 138, 139, 140, 141, 142, 143, 144] (by decide +kernel) (by decide +kernel)
set_option maxRecDepth 20000 in
theorem gX4_ifCleared_X4_freshTrial : GoodIn wsX4_ifCleared (wsV RX4 40 RX4 yX4_freshTrial wsX4_freshTrial) := goodIn_app (goodIn_of _ (by decide +kernel)) ggX4_ifCleared_X4_freshTrial
set_option maxRecDepth 20000 in
theorem ggX4_ifCleared_X3_clearKind : GoodIn wsX4_ifCleared wsX3_clearKind := goodIn_r _ [45, 46, 47, 6, 7, 8, 48, 49, 50, 44, 51, 52, 53, 54, 55, 56, 57, 58, 59, 60, 16, 61, 18, 62, 63, 64, 65, 25, 26, 27, 66, 67, 68, 69, 70, 71, 72, 73, 74, 75, 76, 77, 78, 79, 80, 81, 82, 83, 84, 85, 86, 87, 88, 89, 90, 91, 92, 93, 94, 95, 96, 97, 98, 34, 35, 36, 99, 100, 101, 102, 103, 104, 105, 106, 28, 107, 108, 109, 110, 111, 29, 112, 113, 114, 115, 116, 117, 30, 118, 119, 120, 121, 24, 122, 123, 124, 125, 145, 146, 147, 148, 149, 132, 133, 134, 135, 136, 137, 138, 139, 140, 141, 142, 143, 144] (by decide +kernel) (by decide +kernel)
set_option maxRecDepth 20000 in
theorem gX4_ifCleared_X3_clearKind : GoodIn wsX4_ifCleared (wsV RX4 70 RX3 yX3_clearKind wsX3_clearKind) := goodIn_app (goodIn_of _ (by decide +kernel)) ggX4_ifCleared_X3_clearKind
set_option maxRecDepth 20000 in
theorem ggX4_ifCleared_X0_number : GoodIn wsX4_ifCleared wsX0_number := goodIn_r _ [61, 18, 132, 133, 134, 135, 136, 137, 138, 139, 140, 141, 142, 143, 144] (by decide +kernel) (by decide +kernel)
set_option maxRecDepth 20000 in
theorem gX4_ifCleared_X0_number : GoodIn wsX4_ifCleared (wsV RX4 92 RX0 yX0_number wsX0_number) := goodIn_app (goodIn_of _ (by decide +kernel)) ggX4_ifCleared_X0_number
theorem dX4_ifCleared_0 : decode cX4_ifCleared 0 = .ok (.iload_n 1, 1) := by decide +kernel
theorem dX4_ifCleared_1 : decode cX4_ifCleared 1 = .ok (.invokestatic 85, 3) := by decide +kernel
theorem dX4_ifCleared_4 : decode cX4_ifCleared 4 = .ok (.ifCond .eq 12, 3) := by decide +kernel
theorem dX4_ifCleared_7 : decode cX4_ifCleared 7 = .ok (.iload_n 2, 1) := by decide +kernel
theorem dX4_ifCleared_8 : decode cX4_ifCleared 8 = .ok (.ifCond .lt 8, 3) := by decide +kernel
theorem dX4_ifCleared_11 : decode cX4_ifCleared 11 = .ok (.iload_n 2, 1) := by decide +kernel
theorem dX4_ifCleared_12 : decode cX4_ifCleared 12 = .ok (.iconst 2, 1) := by decide +kernel
theorem dX4_ifCleared_13 : decode cX4_ifCleared 13 = .ok (.if_icmp .le 6, 3) := by decide +kernel
theorem dX4_ifCleared_16 : decode cX4_ifCleared 16 = .ok (.ldc 81, 2) := by decide +kernel
theorem dX4_ifCleared_18 : decode cX4_ifCleared 18 = .ok (.ireturn, 1) := by decide +kernel
theorem dX4_ifCleared_19 : decode cX4_ifCleared 19 = .ok (.aload_n 0, 1) := by decide +kernel
theorem dX4_ifCleared_20 : decode cX4_ifCleared 20 = .ok (.getfield 29, 3) := by decide +kernel
theorem dX4_ifCleared_23 : decode cX4_ifCleared 23 = .ok (.aload_n 0, 1) := by decide +kernel
theorem dX4_ifCleared_24 : decode cX4_ifCleared 24 = .ok (.invokevirtual 40, 3) := by decide +kernel
theorem dX4_ifCleared_27 : decode cX4_ifCleared 27 = .ok (.iload_n 1, 1) := by decide +kernel
theorem dX4_ifCleared_28 : decode cX4_ifCleared 28 = .ok (.invokevirtual 70, 3) := by decide +kernel
theorem dX4_ifCleared_31 : decode cX4_ifCleared 31 = .ok (.istore_n 3, 1) := by decide +kernel
theorem dX4_ifCleared_32 : decode cX4_ifCleared 32 = .ok (.iload_n 2, 1) := by decide +kernel
theorem dX4_ifCleared_33 : decode cX4_ifCleared 33 = .ok (.ifCond .ne 5, 3) := by decide +kernel
theorem dX4_ifCleared_36 : decode cX4_ifCleared 36 = .ok (.iload_n 3, 1) := by decide +kernel
theorem dX4_ifCleared_37 : decode cX4_ifCleared 37 = .ok (.ireturn, 1) := by decide +kernel
theorem dX4_ifCleared_38 : decode cX4_ifCleared 38 = .ok (.iload_n 2, 1) := by decide +kernel
theorem dX4_ifCleared_39 : decode cX4_ifCleared 39 = .ok (.iconst 1, 1) := by decide +kernel
theorem dX4_ifCleared_40 : decode cX4_ifCleared 40 = .ok (.if_icmp .ne 25, 3) := by decide +kernel
theorem dX4_ifCleared_43 : decode cX4_ifCleared 43 = .ok (.aload_n 0, 1) := by decide +kernel
theorem dX4_ifCleared_44 : decode cX4_ifCleared 44 = .ok (.getfield 16, 3) := by decide +kernel
theorem dX4_ifCleared_47 : decode cX4_ifCleared 47 = .ok (.bipush 9, 2) := by decide +kernel
theorem dX4_ifCleared_49 : decode cX4_ifCleared 49 = .ok (.invokevirtual 92, 3) := by decide +kernel
theorem dX4_ifCleared_52 : decode cX4_ifCleared 52 = .ok (.aload_n 0, 1) := by decide +kernel
theorem dX4_ifCleared_53 : decode cX4_ifCleared 53 = .ok (.getfield 10, 3) := by decide +kernel
theorem dX4_ifCleared_56 : decode cX4_ifCleared 56 = .ok (.bipush 9, 2) := by decide +kernel
theorem dX4_ifCleared_58 : decode cX4_ifCleared 58 = .ok (.invokevirtual 92, 3) := by decide +kernel
theorem dX4_ifCleared_61 : decode cX4_ifCleared 61 = .ok (.isub, 1) := by decide +kernel
theorem dX4_ifCleared_62 : decode cX4_ifCleared 62 = .ok (.goto 11, 3) := by decide +kernel
theorem dX4_ifCleared_65 : decode cX4_ifCleared 65 = .ok (.aload_n 0, 1) := by decide +kernel
theorem dX4_ifCleared_66 : decode cX4_ifCleared 66 = .ok (.getfield 16, 3) := by decide +kernel
theorem dX4_ifCleared_69 : decode cX4_ifCleared 69 = .ok (.iconst 2, 1) := by decide +kernel
theorem dX4_ifCleared_70 : decode cX4_ifCleared 70 = .ok (.invokevirtual 92, 3) := by decide +kernel
theorem dX4_ifCleared_73 : decode cX4_ifCleared 73 = .ok (.ireturn, 1) := by decide +kernel
set_option maxRecDepth 20000 in
theorem ggX4_chain_X0_isPair : GoodIn wsX4_chain wsX0_isPair := goodIn_r _ [9, 10, 11, 12, 8, 13, 14, 15, 16, 17, 18, 62, 63, 64, 65, 66, 67, 68, 69, 70, 71, 72, 73, 74] (by decide +kernel) (by decide +kernel)
set_option maxRecDepth 20000 in
theorem gX4_chain_X0_isPair : GoodIn wsX4_chain (wsV RX4 118 RX0 yX0_isPair wsX0_isPair) := goodIn_app (goodIn_of _ (by decide +kernel)) ggX4_chain_X0_isPair
set_option maxRecDepth 20000 in
theorem ggX4_chain_X4_isKind : GoodIn wsX4_chain wsX4_isKind := goodIn_r _ [22] (by decide +kernel) (by decide +kernel)
set_option maxRecDepth 20000 in
theorem gX4_chain_X4_isKind : GoodIn wsX4_chain (va_wsS RX4 85 yX4_isKind wsX4_isKind) := goodIn_app (goodIn_of _ (by decide +kernel)) ggX4_chain_X4_isKind
set_option maxRecDepth 20000 in
theorem ggX4_chain_X3_stepsBetween : GoodIn wsX4_chain wsX3_stepsBetween := goodIn_r _ [27, 28, 29, 30, 31, 26, 32, 33, 34, 15, 16, 8, 17, 18, 35, 36, 37, 38, 39, 40, 41, 42, 21, 43, 44, 45, 46, 47, 48, 49, 50, 51, 52, 53, 54, 55, 56, 75, 76, 77, 78, 79, 62, 63, 64, 65, 66, 67, 68, 69, 70, 71, 72, 73, 74] (by decide +kernel) (by decide +kernel)
set_option maxRecDepth 20000 in
theorem gX4_chain_X3_stepsBetween : GoodIn wsX4_chain (wsV RX4 122 RX3 yX3_stepsBetween wsX3_stepsBetween) := goodIn_app (goodIn_of _ (by decide +kernel)) ggX4_chain_X3_stepsBetween
theorem dX4_chain_0 : decode cX4_chain 0 = .ok (.aload_n 0, 1) := by decide +kernel
theorem dX4_chain_1 : decode cX4_chain 1 = .ok (.getfield 10, 3) := by decide +kernel
theorem dX4_chain_4 : decode cX4_chain 4 = .ok (.iload_n 1, 1) := by decide +kernel
theorem dX4_chain_5 : decode cX4_chain 5 = .ok (.iload_n 2, 1) := by decide +kernel
theorem dX4_chain_6 : decode cX4_chain 6 = .ok (.invokevirtual 118, 3) := by decide +kernel
theorem dX4_chain_9 : decode cX4_chain 9 = .ok (.ifCond .eq 10, 3) := by decide +kernel
theorem dX4_chain_12 : decode cX4_chain 12 = .ok (.iload_n 3, 1) := by decide +kernel
theorem dX4_chain_13 : decode cX4_chain 13 = .ok (.invokestatic 85, 3) := by decide +kernel
theorem dX4_chain_16 : decode cX4_chain 16 = .ok (.ifCond .ne 6, 3) := by decide +kernel
theorem dX4_chain_19 : decode cX4_chain 19 = .ok (.ldc 81, 2) := by decide +kernel
theorem dX4_chain_21 : decode cX4_chain 21 = .ok (.ireturn, 1) := by decide +kernel
theorem dX4_chain_22 : decode cX4_chain 22 = .ok (.aload_n 0, 1) := by decide +kernel
theorem dX4_chain_23 : decode cX4_chain 23 = .ok (.getfield 29, 3) := by decide +kernel
theorem dX4_chain_26 : decode cX4_chain 26 = .ok (.aload_n 0, 1) := by decide +kernel
theorem dX4_chain_27 : decode cX4_chain 27 = .ok (.getfield 10, 3) := by decide +kernel
theorem dX4_chain_30 : decode cX4_chain 30 = .ok (.iload_n 1, 1) := by decide +kernel
theorem dX4_chain_31 : decode cX4_chain 31 = .ok (.iload_n 2, 1) := by decide +kernel
theorem dX4_chain_32 : decode cX4_chain 32 = .ok (.iload_n 3, 1) := by decide +kernel
theorem dX4_chain_33 : decode cX4_chain 33 = .ok (.invokevirtual 122, 3) := by decide +kernel
theorem dX4_chain_36 : decode cX4_chain 36 = .ok (.istore 4, 2) := by decide +kernel
theorem dX4_chain_38 : decode cX4_chain 38 = .ok (.iload 4, 2) := by decide +kernel
theorem dX4_chain_40 : decode cX4_chain 40 = .ok (.ifCond .le 8, 3) := by decide +kernel
theorem dX4_chain_43 : decode cX4_chain 43 = .ok (.iload 4, 2) := by decide +kernel
theorem dX4_chain_45 : decode cX4_chain 45 = .ok (.goto 5, 3) := by decide +kernel
theorem dX4_chain_48 : decode cX4_chain 48 = .ok (.ldc 98, 2) := by decide +kernel
theorem dX4_chain_50 : decode cX4_chain 50 = .ok (.ireturn, 1) := by decide +kernel
set_option maxRecDepth 20000 in
theorem ggX4_deepest_X4_isKind : GoodIn wsX4_deepest wsX4_isKind := goodIn_r _ [7] (by decide +kernel) (by decide +kernel)
set_option maxRecDepth 20000 in
theorem gX4_deepest_X4_isKind : GoodIn wsX4_deepest (va_wsS RX4 85 yX4_isKind wsX4_isKind) := goodIn_app (goodIn_of _ (by decide +kernel)) ggX4_deepest_X4_isKind
set_option maxRecDepth 20000 in
theorem ggX4_deepest_X0_number : GoodIn wsX4_deepest wsX0_number := goodIn_r _ [12, 13, 34, 35, 36, 37, 38, 39, 40, 41, 42, 43, 44, 45, 46] (by decide +kernel) (by decide +kernel)
set_option maxRecDepth 20000 in
theorem gX4_deepest_X0_number : GoodIn wsX4_deepest (wsV RX4 92 RX0 yX0_number wsX0_number) := goodIn_app (goodIn_of _ (by decide +kernel)) ggX4_deepest_X0_number
set_option maxRecDepth 20000 in
theorem ggX4_deepest_X0_sumOwed : GoodIn wsX4_deepest wsX0_sumOwed := goodIn_r _ [17, 18, 19, 9, 10, 11, 12, 13, 20, 21, 22, 23, 24, 25, 26, 27, 6, 28, 34, 35, 36, 37, 38, 39, 40, 41, 42, 43, 44, 45, 46] (by decide +kernel) (by decide +kernel)
set_option maxRecDepth 20000 in
theorem gX4_deepest_X0_sumOwed : GoodIn wsX4_deepest (wsV RX4 88 RX0 yX0_sumOwed wsX0_sumOwed) := goodIn_app (goodIn_of _ (by decide +kernel)) ggX4_deepest_X0_sumOwed
theorem dX4_deepest_0 : decode cX4_deepest 0 = .ok (.iload_n 1, 1) := by decide +kernel
theorem dX4_deepest_1 : decode cX4_deepest 1 = .ok (.invokestatic 85, 3) := by decide +kernel
theorem dX4_deepest_4 : decode cX4_deepest 4 = .ok (.ifCond .ne 6, 3) := by decide +kernel
theorem dX4_deepest_7 : decode cX4_deepest 7 = .ok (.ldc 81, 2) := by decide +kernel
theorem dX4_deepest_9 : decode cX4_deepest 9 = .ok (.ireturn, 1) := by decide +kernel
theorem dX4_deepest_10 : decode cX4_deepest 10 = .ok (.ldc 98, 2) := by decide +kernel
theorem dX4_deepest_12 : decode cX4_deepest 12 = .ok (.istore_n 2, 1) := by decide +kernel
theorem dX4_deepest_13 : decode cX4_deepest 13 = .ok (.iconst 0, 1) := by decide +kernel
theorem dX4_deepest_14 : decode cX4_deepest 14 = .ok (.istore_n 3, 1) := by decide +kernel
theorem dX4_deepest_15 : decode cX4_deepest 15 = .ok (.iconst 0, 1) := by decide +kernel
theorem dX4_deepest_16 : decode cX4_deepest 16 = .ok (.istore 4, 2) := by decide +kernel
theorem dX4_deepest_18 : decode cX4_deepest 18 = .ok (.iload 4, 2) := by decide +kernel
theorem dX4_deepest_20 : decode cX4_deepest 20 = .ok (.aload_n 0, 1) := by decide +kernel
theorem dX4_deepest_21 : decode cX4_deepest 21 = .ok (.getfield 10, 3) := by decide +kernel
theorem dX4_deepest_24 : decode cX4_deepest 24 = .ok (.iconst 1, 1) := by decide +kernel
theorem dX4_deepest_25 : decode cX4_deepest 25 = .ok (.invokevirtual 92, 3) := by decide +kernel
theorem dX4_deepest_28 : decode cX4_deepest 28 = .ok (.if_icmp .ge 34, 3) := by decide +kernel
theorem dX4_deepest_31 : decode cX4_deepest 31 = .ok (.aload_n 0, 1) := by decide +kernel
theorem dX4_deepest_32 : decode cX4_deepest 32 = .ok (.getfield 10, 3) := by decide +kernel
theorem dX4_deepest_35 : decode cX4_deepest 35 = .ok (.iload 4, 2) := by decide +kernel
theorem dX4_deepest_37 : decode cX4_deepest 37 = .ok (.iconst (-1), 1) := by decide +kernel
theorem dX4_deepest_38 : decode cX4_deepest 38 = .ok (.iload_n 1, 1) := by decide +kernel
theorem dX4_deepest_39 : decode cX4_deepest 39 = .ok (.invokevirtual 88, 3) := by decide +kernel
theorem dX4_deepest_42 : decode cX4_deepest 42 = .ok (.istore 5, 2) := by decide +kernel
theorem dX4_deepest_44 : decode cX4_deepest 44 = .ok (.iload 5, 2) := by decide +kernel
theorem dX4_deepest_46 : decode cX4_deepest 46 = .ok (.iload_n 3, 1) := by decide +kernel
theorem dX4_deepest_47 : decode cX4_deepest 47 = .ok (.if_icmp .le 9, 3) := by decide +kernel
theorem dX4_deepest_50 : decode cX4_deepest 50 = .ok (.iload 5, 2) := by decide +kernel
theorem dX4_deepest_52 : decode cX4_deepest 52 = .ok (.istore_n 3, 1) := by decide +kernel
theorem dX4_deepest_53 : decode cX4_deepest 53 = .ok (.iload 4, 2) := by decide +kernel
theorem dX4_deepest_55 : decode cX4_deepest 55 = .ok (.istore_n 2, 1) := by decide +kernel
theorem dX4_deepest_56 : decode cX4_deepest 56 = .ok (.iinc 4 1, 3) := by decide +kernel
theorem dX4_deepest_59 : decode cX4_deepest 59 = .ok (.goto (-41), 3) := by decide +kernel
theorem dX4_deepest_62 : decode cX4_deepest 62 = .ok (.iload_n 2, 1) := by decide +kernel
theorem dX4_deepest_63 : decode cX4_deepest 63 = .ok (.ireturn, 1) := by decide +kernel
set_option maxRecDepth 20000 in
theorem ggX4_spoilsIn_X0_isPupil : GoodIn wsX4_spoilsIn wsX0_isPupil := goodIn_r _ [8, 9, 10, 11, 7, 12, 13, 45, 46, 47, 48, 49, 50, 51, 52, 53, 54, 55, 56, 57] (by decide +kernel) (by decide +kernel)
set_option maxRecDepth 20000 in
theorem gX4_spoilsIn_X0_isPupil : GoodIn wsX4_spoilsIn (wsV RX4 77 RX0 yX0_isPupil wsX0_isPupil) := goodIn_app (goodIn_of _ (by decide +kernel)) ggX4_spoilsIn_X0_isPupil
set_option maxRecDepth 20000 in
theorem ggX4_spoilsIn_X0_weeksUntilNextSpoils : GoodIn wsX4_spoilsIn wsX0_weeksUntilNextSpoils := goodIn_r _ [17, 18, 19, 20, 21, 22, 23, 24, 9, 10, 11, 7, 12, 13, 25, 26, 27, 28, 29, 30, 31, 32, 33, 34, 35, 36, 37, 38, 39, 45, 46, 47, 48, 49, 50, 51, 52, 53, 54, 55, 56, 57] (by decide +kernel) (by decide +kernel)
set_option maxRecDepth 20000 in
theorem gX4_spoilsIn_X0_weeksUntilNextSpoils : GoodIn wsX4_spoilsIn (wsV RX4 126 RX0 yX0_weeksUntilNextSpoils wsX0_weeksUntilNextSpoils) := goodIn_app (goodIn_of _ (by decide +kernel)) ggX4_spoilsIn_X0_weeksUntilNextSpoils
theorem dX4_spoilsIn_0 : decode cX4_spoilsIn 0 = .ok (.aload_n 0, 1) := by decide +kernel
theorem dX4_spoilsIn_1 : decode cX4_spoilsIn 1 = .ok (.getfield 10, 3) := by decide +kernel
theorem dX4_spoilsIn_4 : decode cX4_spoilsIn 4 = .ok (.iload_n 1, 1) := by decide +kernel
theorem dX4_spoilsIn_5 : decode cX4_spoilsIn 5 = .ok (.invokevirtual 77, 3) := by decide +kernel
theorem dX4_spoilsIn_8 : decode cX4_spoilsIn 8 = .ok (.ifCond .ne 6, 3) := by decide +kernel
theorem dX4_spoilsIn_11 : decode cX4_spoilsIn 11 = .ok (.ldc 81, 2) := by decide +kernel
theorem dX4_spoilsIn_13 : decode cX4_spoilsIn 13 = .ok (.ireturn, 1) := by decide +kernel
theorem dX4_spoilsIn_14 : decode cX4_spoilsIn 14 = .ok (.aload_n 0, 1) := by decide +kernel
theorem dX4_spoilsIn_15 : decode cX4_spoilsIn 15 = .ok (.getfield 10, 3) := by decide +kernel
theorem dX4_spoilsIn_18 : decode cX4_spoilsIn 18 = .ok (.iload_n 1, 1) := by decide +kernel
theorem dX4_spoilsIn_19 : decode cX4_spoilsIn 19 = .ok (.invokevirtual 126, 3) := by decide +kernel
theorem dX4_spoilsIn_22 : decode cX4_spoilsIn 22 = .ok (.istore_n 2, 1) := by decide +kernel
theorem dX4_spoilsIn_23 : decode cX4_spoilsIn 23 = .ok (.iload_n 2, 1) := by decide +kernel
theorem dX4_spoilsIn_24 : decode cX4_spoilsIn 24 = .ok (.ifCond .le 7, 3) := by decide +kernel
theorem dX4_spoilsIn_27 : decode cX4_spoilsIn 27 = .ok (.iload_n 2, 1) := by decide +kernel
theorem dX4_spoilsIn_28 : decode cX4_spoilsIn 28 = .ok (.goto 5, 3) := by decide +kernel
theorem dX4_spoilsIn_31 : decode cX4_spoilsIn 31 = .ok (.ldc 98, 2) := by decide +kernel
theorem dX4_spoilsIn_33 : decode cX4_spoilsIn 33 = .ok (.ireturn, 1) := by decide +kernel
set_option maxRecDepth 20000 in
theorem ggX4_richest_X0_number : GoodIn wsX4_richest wsX0_number := goodIn_r _ [8, 9, 39, 40, 41, 42, 43, 44, 45, 46, 47, 48, 49, 50, 51] (by decide +kernel) (by decide +kernel)
set_option maxRecDepth 20000 in
theorem gX4_richest_X0_number : GoodIn wsX4_richest (wsV RX4 92 RX0 yX0_number wsX0_number) := goodIn_app (goodIn_of _ (by decide +kernel)) ggX4_richest_X0_number
set_option maxRecDepth 20000 in
theorem ggX4_richest_X0_rankOf : GoodIn wsX4_richest wsX0_rankOf := goodIn_r _ [13, 14, 15, 16, 7, 17, 18, 19, 20, 21, 22, 23, 5, 6, 8, 9, 24, 25, 26, 27, 28, 29, 30, 31, 32, 33, 39, 40, 41, 42, 43, 44, 45, 46, 47, 48, 49, 50, 51] (by decide +kernel) (by decide +kernel)
set_option maxRecDepth 20000 in
theorem gX4_richest_X0_rankOf : GoodIn wsX4_richest (wsV RX4 129 RX0 yX0_rankOf wsX0_rankOf) := goodIn_app (goodIn_of _ (by decide +kernel)) ggX4_richest_X0_rankOf
theorem dX4_richest_0 : decode cX4_richest 0 = .ok (.iload_n 1, 1) := by decide +kernel
theorem dX4_richest_1 : decode cX4_richest 1 = .ok (.ifCond .ge 6, 3) := by decide +kernel
theorem dX4_richest_4 : decode cX4_richest 4 = .ok (.ldc 81, 2) := by decide +kernel
theorem dX4_richest_6 : decode cX4_richest 6 = .ok (.ireturn, 1) := by decide +kernel
theorem dX4_richest_7 : decode cX4_richest 7 = .ok (.iconst 0, 1) := by decide +kernel
theorem dX4_richest_8 : decode cX4_richest 8 = .ok (.istore_n 2, 1) := by decide +kernel
theorem dX4_richest_9 : decode cX4_richest 9 = .ok (.iload_n 2, 1) := by decide +kernel
theorem dX4_richest_10 : decode cX4_richest 10 = .ok (.aload_n 0, 1) := by decide +kernel
theorem dX4_richest_11 : decode cX4_richest 11 = .ok (.getfield 10, 3) := by decide +kernel
theorem dX4_richest_14 : decode cX4_richest 14 = .ok (.iconst 1, 1) := by decide +kernel
theorem dX4_richest_15 : decode cX4_richest 15 = .ok (.invokevirtual 92, 3) := by decide +kernel
theorem dX4_richest_18 : decode cX4_richest 18 = .ok (.if_icmp .ge 23, 3) := by decide +kernel
theorem dX4_richest_21 : decode cX4_richest 21 = .ok (.aload_n 0, 1) := by decide +kernel
theorem dX4_richest_22 : decode cX4_richest 22 = .ok (.getfield 10, 3) := by decide +kernel
theorem dX4_richest_25 : decode cX4_richest 25 = .ok (.iload_n 2, 1) := by decide +kernel
theorem dX4_richest_26 : decode cX4_richest 26 = .ok (.invokevirtual 129, 3) := by decide +kernel
theorem dX4_richest_29 : decode cX4_richest 29 = .ok (.iload_n 1, 1) := by decide +kernel
theorem dX4_richest_30 : decode cX4_richest 30 = .ok (.if_icmp .ne 5, 3) := by decide +kernel
theorem dX4_richest_33 : decode cX4_richest 33 = .ok (.iload_n 2, 1) := by decide +kernel
theorem dX4_richest_34 : decode cX4_richest 34 = .ok (.ireturn, 1) := by decide +kernel
theorem dX4_richest_35 : decode cX4_richest 35 = .ok (.iinc 2 1, 3) := by decide +kernel
theorem dX4_richest_38 : decode cX4_richest 38 = .ok (.goto (-29), 3) := by decide +kernel
theorem dX4_richest_41 : decode cX4_richest 41 = .ok (.ldc 98, 2) := by decide +kernel
theorem dX4_richest_43 : decode cX4_richest 43 = .ok (.ireturn, 1) := by decide +kernel
set_option maxRecDepth 20000 in
theorem ggX4_mean_X0_sumOwed : GoodIn wsX4_mean wsX0_sumOwed := goodIn_r _ [7, 8, 9, 10, 11, 6, 12, 13, 14, 15, 16, 17, 18, 19, 20, 21, 22, 23, 38, 39, 40, 41, 42, 43, 44, 45, 46, 47, 48, 49, 50] (by decide +kernel) (by decide +kernel)
set_option maxRecDepth 20000 in
theorem gX4_mean_X0_sumOwed : GoodIn wsX4_mean (wsV RX4 88 RX0 yX0_sumOwed wsX0_sumOwed) := goodIn_app (goodIn_of _ (by decide +kernel)) ggX4_mean_X0_sumOwed
set_option maxRecDepth 20000 in
theorem ggX4_mean_X0_sumOfAges : GoodIn wsX4_mean wsX0_sumOfAges := goodIn_r _ [27, 8, 28, 9, 10, 11, 6, 12, 13, 21, 22, 23, 38, 39, 40, 41, 42, 43, 44, 45, 46, 47, 48, 49, 50] (by decide +kernel) (by decide +kernel)
set_option maxRecDepth 20000 in
theorem gX4_mean_X0_sumOfAges : GoodIn wsX4_mean (wsV RX4 132 RX0 yX0_sumOfAges wsX0_sumOfAges) := goodIn_app (goodIn_of _ (by decide +kernel)) ggX4_mean_X0_sumOfAges
set_option maxRecDepth 20000 in
theorem ggX4_mean_X4_bitsOf : GoodIn wsX4_mean wsX4_bitsOf := goodIn_r _ [31, 32] (by decide +kernel) (by decide +kernel)
set_option maxRecDepth 20000 in
theorem gX4_mean_X4_bitsOf : GoodIn wsX4_mean (va_wsS RX4 135 yX4_bitsOf wsX4_bitsOf) := goodIn_app (goodIn_of _ (by decide +kernel)) ggX4_mean_X4_bitsOf
theorem dX4_mean_0 : decode cX4_mean 0 = .ok (.aload_n 0, 1) := by decide +kernel
theorem dX4_mean_1 : decode cX4_mean 1 = .ok (.getfield 10, 3) := by decide +kernel
theorem dX4_mean_4 : decode cX4_mean 4 = .ok (.iconst (-1), 1) := by decide +kernel
theorem dX4_mean_5 : decode cX4_mean 5 = .ok (.iconst (-1), 1) := by decide +kernel
theorem dX4_mean_6 : decode cX4_mean 6 = .ok (.iconst (-1), 1) := by decide +kernel
theorem dX4_mean_7 : decode cX4_mean 7 = .ok (.invokevirtual 88, 3) := by decide +kernel
theorem dX4_mean_10 : decode cX4_mean 10 = .ok (.istore_n 1, 1) := by decide +kernel
theorem dX4_mean_11 : decode cX4_mean 11 = .ok (.iload_n 1, 1) := by decide +kernel
theorem dX4_mean_12 : decode cX4_mean 12 = .ok (.ifCond .gt 6, 3) := by decide +kernel
theorem dX4_mean_15 : decode cX4_mean 15 = .ok (.ldc 98, 2) := by decide +kernel
theorem dX4_mean_17 : decode cX4_mean 17 = .ok (.ireturn, 1) := by decide +kernel
theorem dX4_mean_18 : decode cX4_mean 18 = .ok (.aload_n 0, 1) := by decide +kernel
theorem dX4_mean_19 : decode cX4_mean 19 = .ok (.getfield 10, 3) := by decide +kernel
theorem dX4_mean_22 : decode cX4_mean 22 = .ok (.invokevirtual 132, 3) := by decide +kernel
theorem dX4_mean_25 : decode cX4_mean 25 = .ok (.i2f, 1) := by decide +kernel
theorem dX4_mean_26 : decode cX4_mean 26 = .ok (.iload_n 1, 1) := by decide +kernel
theorem dX4_mean_27 : decode cX4_mean 27 = .ok (.i2f, 1) := by decide +kernel
theorem dX4_mean_28 : decode cX4_mean 28 = .ok (.fdiv, 1) := by decide +kernel
theorem dX4_mean_29 : decode cX4_mean 29 = .ok (.invokestatic 135, 3) := by decide +kernel
theorem dX4_mean_32 : decode cX4_mean 32 = .ok (.ireturn, 1) := by decide +kernel
set_option maxRecDepth 20000 in
theorem ggX4_count_X0_sumOwed : GoodIn wsX4_count wsX0_sumOwed := goodIn_r _ [9, 10, 11, 12, 13, 8, 14, 15, 16, 17, 18, 19, 20, 21, 22, 23, 24, 25, 53, 54, 55, 56, 57, 58, 59, 60, 61, 62, 63, 64, 65] (by decide +kernel) (by decide +kernel)
set_option maxRecDepth 20000 in
theorem gX4_count_X0_sumOwed : GoodIn wsX4_count (wsV RX4 88 RX0 yX0_sumOwed wsX0_sumOwed) := goodIn_app (goodIn_of _ (by decide +kernel)) ggX4_count_X0_sumOwed
set_option maxRecDepth 20000 in
theorem ggX4_count_X0_setWithoutGuarantor : GoodIn wsX4_count wsX0_setWithoutGuarantor := goodIn_r _ [29, 11, 12, 13, 8, 14, 15, 30, 31, 32, 33, 34, 53, 54, 55, 56, 57, 58, 59, 60, 61, 62, 63, 64, 65] (by decide +kernel) (by decide +kernel)
set_option maxRecDepth 20000 in
theorem gX4_count_X0_setWithoutGuarantor : GoodIn wsX4_count (wsV RX4 139 RX0 yX0_setWithoutGuarantor wsX0_setWithoutGuarantor) := goodIn_app (goodIn_of _ (by decide +kernel)) ggX4_count_X0_setWithoutGuarantor
set_option maxRecDepth 20000 in
theorem ggX4_count_X1_size : GoodIn wsX4_count wsX1_size := goodIn_r _ [39, 40, 66, 67] (by decide +kernel) (by decide +kernel)
set_option maxRecDepth 20000 in
theorem gX4_count_X1_size : GoodIn wsX4_count (wsV RX4 142 RX1 yX1_size wsX1_size) := goodIn_app (goodIn_of _ (by decide +kernel)) ggX4_count_X1_size
set_option maxRecDepth 20000 in
theorem ggX4_count_X2_length : GoodIn wsX4_count wsX2_length := goodIn_r _ [45, 46, 68, 69, 70, 71, 72, 73, 74, 75] (by decide +kernel) (by decide +kernel)
set_option maxRecDepth 20000 in
theorem gX4_count_X2_length : GoodIn wsX4_count (wsV RX4 145 RX2 yX2_length wsX2_length) := goodIn_app (goodIn_of _ (by decide +kernel)) ggX4_count_X2_length
set_option maxRecDepth 20000 in
theorem ggX4_count_X0_number : GoodIn wsX4_count wsX0_number := goodIn_r _ [14, 15, 53, 54, 55, 56, 57, 58, 59, 60, 61, 62, 63, 64, 65] (by decide +kernel) (by decide +kernel)
set_option maxRecDepth 20000 in
theorem gX4_count_X0_number : GoodIn wsX4_count (wsV RX4 92 RX0 yX0_number wsX0_number) := goodIn_app (goodIn_of _ (by decide +kernel)) ggX4_count_X0_number
theorem dX4_count_0 : decode cX4_count 0 = .ok (.iload_n 1, 1) := by decide +kernel
theorem dX4_count_1 : decode cX4_count 1 = .ok (.ifCond .lt 21, 3) := by decide +kernel
theorem dX4_count_4 : decode cX4_count 4 = .ok (.iload_n 1, 1) := by decide +kernel
theorem dX4_count_5 : decode cX4_count 5 = .ok (.bipush 13, 2) := by decide +kernel
theorem dX4_count_7 : decode cX4_count 7 = .ok (.if_icmp .le 9, 3) := by decide +kernel
theorem dX4_count_10 : decode cX4_count 10 = .ok (.iload_n 1, 1) := by decide +kernel
theorem dX4_count_11 : decode cX4_count 11 = .ok (.bipush 20, 2) := by decide +kernel
theorem dX4_count_13 : decode cX4_count 13 = .ok (.if_icmp .lt 9, 3) := by decide +kernel
theorem dX4_count_16 : decode cX4_count 16 = .ok (.iload_n 1, 1) := by decide +kernel
theorem dX4_count_17 : decode cX4_count 17 = .ok (.bipush 26, 2) := by decide +kernel
theorem dX4_count_19 : decode cX4_count 19 = .ok (.if_icmp .lt 6, 3) := by decide +kernel
theorem dX4_count_22 : decode cX4_count 22 = .ok (.ldc 81, 2) := by decide +kernel
theorem dX4_count_24 : decode cX4_count 24 = .ok (.ireturn, 1) := by decide +kernel
theorem dX4_count_25 : decode cX4_count 25 = .ok (.iload_n 1, 1) := by decide +kernel
theorem dX4_count_26 : decode cX4_count 26 = .ok (.lookupswitch 77 #[(3, 42), (11, 53), (12, 61), (13, 69)], 42) := by decide +kernel
theorem dX4_count_68 : decode cX4_count 68 = .ok (.aload_n 0, 1) := by decide +kernel
theorem dX4_count_69 : decode cX4_count 69 = .ok (.getfield 10, 3) := by decide +kernel
theorem dX4_count_72 : decode cX4_count 72 = .ok (.iconst (-1), 1) := by decide +kernel
theorem dX4_count_73 : decode cX4_count 73 = .ok (.iconst (-1), 1) := by decide +kernel
theorem dX4_count_74 : decode cX4_count 74 = .ok (.iconst (-1), 1) := by decide +kernel
theorem dX4_count_75 : decode cX4_count 75 = .ok (.invokevirtual 88, 3) := by decide +kernel
theorem dX4_count_78 : decode cX4_count 78 = .ok (.ireturn, 1) := by decide +kernel
theorem dX4_count_79 : decode cX4_count 79 = .ok (.aload_n 0, 1) := by decide +kernel
theorem dX4_count_80 : decode cX4_count 80 = .ok (.getfield 10, 3) := by decide +kernel
theorem dX4_count_83 : decode cX4_count 83 = .ok (.invokevirtual 139, 3) := by decide +kernel
theorem dX4_count_86 : decode cX4_count 86 = .ok (.ireturn, 1) := by decide +kernel
theorem dX4_count_87 : decode cX4_count 87 = .ok (.aload_n 0, 1) := by decide +kernel
theorem dX4_count_88 : decode cX4_count 88 = .ok (.getfield 22, 3) := by decide +kernel
theorem dX4_count_91 : decode cX4_count 91 = .ok (.invokevirtual 142, 3) := by decide +kernel
theorem dX4_count_94 : decode cX4_count 94 = .ok (.ireturn, 1) := by decide +kernel
theorem dX4_count_95 : decode cX4_count 95 = .ok (.aload_n 0, 1) := by decide +kernel
theorem dX4_count_96 : decode cX4_count 96 = .ok (.getfield 36, 3) := by decide +kernel
theorem dX4_count_99 : decode cX4_count 99 = .ok (.invokevirtual 145, 3) := by decide +kernel
theorem dX4_count_102 : decode cX4_count 102 = .ok (.ireturn, 1) := by decide +kernel
theorem dX4_count_103 : decode cX4_count 103 = .ok (.aload_n 0, 1) := by decide +kernel
theorem dX4_count_104 : decode cX4_count 104 = .ok (.getfield 10, 3) := by decide +kernel
theorem dX4_count_107 : decode cX4_count 107 = .ok (.iload_n 1, 1) := by decide +kernel
theorem dX4_count_108 : decode cX4_count 108 = .ok (.invokevirtual 92, 3) := by decide +kernel
theorem dX4_count_111 : decode cX4_count 111 = .ok (.ireturn, 1) := by decide +kernel
set_option maxRecDepth 20000 in
theorem ggX4_undo_X1_restoreLatest : GoodIn wsX4_undo wsX1_restoreLatest := goodIn_r _ [7, 8, 9, 10, 11, 12, 13, 14, 15, 16, 17, 18, 19, 20, 21, 22, 23, 24, 25, 26, 27, 28, 29, 30, 31, 32, 33, 34, 35, 36, 37, 38, 39, 45, 46, 47, 48, 49, 50, 51, 52, 53, 54, 55, 56, 57, 58, 59] (by decide +kernel) (by decide +kernel)
set_option maxRecDepth 20000 in
theorem gX4_undo_X1_restoreLatest : GoodIn wsX4_undo (wsV RX4 148 RX1 yX1_restoreLatest wsX1_restoreLatest) := goodIn_app (goodIn_of _ (by decide +kernel)) ggX4_undo_X1_restoreLatest
theorem dX4_undo_0 : decode cX4_undo 0 = .ok (.aload_n 0, 1) := by decide +kernel
theorem dX4_undo_1 : decode cX4_undo 1 = .ok (.getfield 22, 3) := by decide +kernel
theorem dX4_undo_4 : decode cX4_undo 4 = .ok (.aload_n 0, 1) := by decide +kernel
theorem dX4_undo_5 : decode cX4_undo 5 = .ok (.getfield 10, 3) := by decide +kernel
theorem dX4_undo_8 : decode cX4_undo 8 = .ok (.invokevirtual 148, 3) := by decide +kernel
theorem dX4_undo_11 : decode cX4_undo 11 = .ok (.ireturn, 1) := by decide +kernel
set_option maxRecDepth 20000 in
theorem ggX4_type_X2_append : GoodIn wsX4_type wsX2_append := goodIn_r _ [6, 7, 8, 9, 10, 11, 12, 13, 19, 20, 21, 22, 23, 24, 25, 26] (by decide +kernel) (by decide +kernel)
set_option maxRecDepth 20000 in
theorem gX4_type_X2_append : GoodIn wsX4_type (wsV RX4 152 RX2 yX2_append wsX2_append) := goodIn_app (goodIn_of _ (by decide +kernel)) ggX4_type_X2_append
theorem dX4_type_0 : decode cX4_type 0 = .ok (.aload_n 0, 1) := by decide +kernel
theorem dX4_type_1 : decode cX4_type 1 = .ok (.getfield 36, 3) := by decide +kernel
theorem dX4_type_4 : decode cX4_type 4 = .ok (.iload_n 1, 1) := by decide +kernel
theorem dX4_type_5 : decode cX4_type 5 = .ok (.invokevirtual 152, 3) := by decide +kernel
theorem dX4_type_8 : decode cX4_type 8 = .ok (.ireturn, 1) := by decide +kernel
set_option maxRecDepth 20000 in
theorem ggX4_clearText_X2_empty : GoodIn wsX4_clearText wsX2_empty := goodIn_r _ [6, 7, 13, 14, 15, 16, 17, 18, 19, 20] (by decide +kernel) (by decide +kernel)
set_option maxRecDepth 20000 in
theorem gX4_clearText_X2_empty : GoodIn wsX4_clearText (wsV RX4 155 RX2 yX2_empty wsX2_empty) := goodIn_app (goodIn_of _ (by decide +kernel)) ggX4_clearText_X2_empty
theorem dX4_clearText_0 : decode cX4_clearText 0 = .ok (.aload_n 0, 1) := by decide +kernel
theorem dX4_clearText_1 : decode cX4_clearText 1 = .ok (.getfield 36, 3) := by decide +kernel
theorem dX4_clearText_4 : decode cX4_clearText 4 = .ok (.invokevirtual 155, 3) := by decide +kernel
theorem dX4_clearText_7 : decode cX4_clearText 7 = .ok (.ireturn, 1) := by decide +kernel
set_option maxRecDepth 20000 in
theorem ggX4_fault_X4_freshTrial : GoodIn wsX4_fault wsX4_freshTrial := goodIn_r _ [9, 10, 11, 12, 13, 14, 15, 16, 17, 18, 19, 20, 21, 22, 23, 24, 25, 26, 27, 28, 29, 30, 8, 31, 32, 33, 34, 35, 36, 37, 38, 39, 253, 254, 255, 256, 257, 258, 259, 260, 261, 262, 263, 264, 265, 266, 267, 268, 269, 270] (by decide +kernel) (by decide +kernel)
set_option maxRecDepth 20000 in
theorem gX4_fault_X4_freshTrial : GoodIn wsX4_fault (wsV RX4 40 RX4 yX4_freshTrial wsX4_freshTrial) := goodIn_app (goodIn_of _ (by decide +kernel)) ggX4_fault_X4_freshTrial
set_option maxRecDepth 20000 in
theorem ggX4_fault_X2_doAll : GoodIn wsX4_fault wsX2_doAll := goodIn_r _ [44, 45, 46, 47, 48, 49, 50, 43, 51, 52, 53, 54, 55, 56, 57, 8, 58, 59, 60, 61, 62, 63, 64, 65, 66, 67, 68, 69, 70, 71, 72, 73, 74, 75, 76, 77, 78, 79, 80, 81, 82, 83, 84, 85, 86, 87, 88, 89, 15, 90, 91, 92, 93, 18, 17, 94, 95, 96, 97, 98, 99, 100, 101, 102, 103, 104, 105, 106, 107, 108, 109, 110, 111, 112, 113, 20, 114, 115, 116, 117, 27, 118, 119, 120, 121, 24, 25, 26, 122, 123, 124, 125, 21, 126, 127, 128, 129, 28, 29, 130, 131, 132, 133, 134, 135, 19, 136, 137, 138, 139, 140, 33, 34, 35, 141, 142, 143, 144, 145, 146, 147, 148, 149, 150, 151, 152, 153, 154, 155, 156, 157, 158, 159, 160, 161, 162, 163, 164, 165, 166, 167, 168, 169, 170, 171, 172, 173, 174, 175, 176, 177, 178, 179, 180, 181, 182, 183, 184, 185, 186, 187, 188, 189, 190, 191, 192, 193, 194, 195, 196, 197, 198, 199, 200, 201, 202, 203, 204, 205, 206, 207, 23, 208, 209, 210, 211, 212, 213, 214, 215, 216, 217, 218, 219, 220, 221, 222, 223, 224, 225, 226, 227, 228, 229, 230, 231, 22, 232, 233, 234, 235, 236, 237, 238, 239, 240, 271, 272, 273, 274, 275, 276, 277, 278, 258, 259, 260, 261, 262, 263, 264, 265, 266, 267, 268, 269, 270, 279, 280, 281, 282, 283] (by decide +kernel) (by decide +kernel)
set_option maxRecDepth 20000 in
theorem gX4_fault_X2_doAll : GoodIn wsX4_fault (wsV RX4 158 RX2 yX2_doAll wsX2_doAll) := goodIn_app (goodIn_of _ (by decide +kernel)) ggX4_fault_X2_doAll
set_option maxRecDepth 20000 in
theorem ggX4_fault_X2_faultPlace : GoodIn wsX4_fault wsX2_faultPlace := goodIn_r _ [244, 80, 271, 272, 273, 274, 275, 276, 277, 278] (by decide +kernel) (by decide +kernel)
set_option maxRecDepth 20000 in
theorem gX4_fault_X2_faultPlace : GoodIn wsX4_fault (wsV RX4 162 RX2 yX2_faultPlace wsX2_faultPlace) := goodIn_app (goodIn_of _ (by decide +kernel)) ggX4_fault_X2_faultPlace
set_option maxRecDepth 20000 in
theorem ggX4_fault_X2_faultReason : GoodIn wsX4_fault wsX2_faultReason := goodIn_r _ [248, 81, 271, 272, 273, 274, 275, 276, 277, 278] (by decide +kernel) (by decide +kernel)
set_option maxRecDepth 20000 in
theorem gX4_fault_X2_faultReason : GoodIn wsX4_fault (wsV RX4 165 RX2 yX2_faultReason wsX2_faultReason) := goodIn_app (goodIn_of _ (by decide +kernel)) ggX4_fault_X2_faultReason
set_option maxRecDepth 20000 in
theorem ggX4_fault_X2_faultCause : GoodIn wsX4_fault wsX2_faultCause := goodIn_r _ [252, 82, 271, 272, 273, 274, 275, 276, 277, 278] (by decide +kernel) (by decide +kernel)
set_option maxRecDepth 20000 in
theorem gX4_fault_X2_faultCause : GoodIn wsX4_fault (wsV RX4 168 RX2 yX2_faultCause wsX2_faultCause) := goodIn_app (goodIn_of _ (by decide +kernel)) ggX4_fault_X2_faultCause
theorem dX4_fault_0 : decode cX4_fault 0 = .ok (.iload_n 1, 1) := by decide +kernel
theorem dX4_fault_1 : decode cX4_fault 1 = .ok (.ifCond .lt 8, 3) := by decide +kernel
theorem dX4_fault_4 : decode cX4_fault 4 = .ok (.iload_n 1, 1) := by decide +kernel
theorem dX4_fault_5 : decode cX4_fault 5 = .ok (.iconst 2, 1) := by decide +kernel
theorem dX4_fault_6 : decode cX4_fault 6 = .ok (.if_icmp .le 6, 3) := by decide +kernel
theorem dX4_fault_9 : decode cX4_fault 9 = .ok (.ldc 81, 2) := by decide +kernel
theorem dX4_fault_11 : decode cX4_fault 11 = .ok (.ireturn, 1) := by decide +kernel
theorem dX4_fault_12 : decode cX4_fault 12 = .ok (.aload_n 0, 1) := by decide +kernel
theorem dX4_fault_13 : decode cX4_fault 13 = .ok (.getfield 36, 3) := by decide +kernel
theorem dX4_fault_16 : decode cX4_fault 16 = .ok (.aload_n 0, 1) := by decide +kernel
theorem dX4_fault_17 : decode cX4_fault 17 = .ok (.invokevirtual 40, 3) := by decide +kernel
theorem dX4_fault_20 : decode cX4_fault 20 = .ok (.aload_n 0, 1) := by decide +kernel
theorem dX4_fault_21 : decode cX4_fault 21 = .ok (.getfield 29, 3) := by decide +kernel
theorem dX4_fault_24 : decode cX4_fault 24 = .ok (.invokevirtual 158, 3) := by decide +kernel
theorem dX4_fault_27 : decode cX4_fault 27 = .ok (.ifCond .eq 6, 3) := by decide +kernel
theorem dX4_fault_30 : decode cX4_fault 30 = .ok (.ldc 98, 2) := by decide +kernel
theorem dX4_fault_32 : decode cX4_fault 32 = .ok (.ireturn, 1) := by decide +kernel
theorem dX4_fault_33 : decode cX4_fault 33 = .ok (.iload_n 1, 1) := by decide +kernel
theorem dX4_fault_34 : decode cX4_fault 34 = .ok (.ifCond .ne 11, 3) := by decide +kernel
theorem dX4_fault_37 : decode cX4_fault 37 = .ok (.aload_n 0, 1) := by decide +kernel
theorem dX4_fault_38 : decode cX4_fault 38 = .ok (.getfield 36, 3) := by decide +kernel
theorem dX4_fault_41 : decode cX4_fault 41 = .ok (.invokevirtual 162, 3) := by decide +kernel
theorem dX4_fault_44 : decode cX4_fault 44 = .ok (.ireturn, 1) := by decide +kernel
theorem dX4_fault_45 : decode cX4_fault 45 = .ok (.iload_n 1, 1) := by decide +kernel
theorem dX4_fault_46 : decode cX4_fault 46 = .ok (.iconst 1, 1) := by decide +kernel
theorem dX4_fault_47 : decode cX4_fault 47 = .ok (.if_icmp .ne 13, 3) := by decide +kernel
theorem dX4_fault_50 : decode cX4_fault 50 = .ok (.aload_n 0, 1) := by decide +kernel
theorem dX4_fault_51 : decode cX4_fault 51 = .ok (.getfield 36, 3) := by decide +kernel
theorem dX4_fault_54 : decode cX4_fault 54 = .ok (.invokevirtual 165, 3) := by decide +kernel
theorem dX4_fault_57 : decode cX4_fault 57 = .ok (.goto 10, 3) := by decide +kernel
theorem dX4_fault_60 : decode cX4_fault 60 = .ok (.aload_n 0, 1) := by decide +kernel
theorem dX4_fault_61 : decode cX4_fault 61 = .ok (.getfield 36, 3) := by decide +kernel
theorem dX4_fault_64 : decode cX4_fault 64 = .ok (.invokevirtual 168, 3) := by decide +kernel
theorem dX4_fault_67 : decode cX4_fault 67 = .ok (.ireturn, 1) := by decide +kernel
set_option maxRecDepth 20000 in
theorem ggX4_play_X4_freshTrial : GoodIn wsX4_play wsX4_freshTrial := goodIn_r _ [8, 9, 10, 11, 12, 13, 14, 15, 16, 17, 18, 19, 20, 21, 22, 23, 24, 25, 26, 27, 28, 29, 7, 30, 31, 32, 33, 34, 35, 36, 37, 38, 261, 262, 263, 264, 265, 266, 267, 268, 269, 270, 271, 272, 273, 274, 275, 276, 277, 278] (by decide +kernel) (by decide +kernel)
set_option maxRecDepth 20000 in
theorem gX4_play_X4_freshTrial : GoodIn wsX4_play (wsV RX4 40 RX4 yX4_freshTrial wsX4_freshTrial) := goodIn_app (goodIn_of _ (by decide +kernel)) ggX4_play_X4_freshTrial
set_option maxRecDepth 20000 in
theorem ggX4_play_X2_doAll : GoodIn wsX4_play wsX2_doAll := goodIn_r _ [43, 44, 45, 46, 47, 48, 49, 42, 50, 51, 52, 53, 54, 55, 56, 7, 57, 58, 59, 60, 61, 62, 63, 64, 65, 66, 67, 68, 69, 70, 71, 72, 73, 74, 75, 76, 77, 78, 79, 80, 81, 82, 83, 84, 85, 86, 87, 88, 14, 89, 90, 91, 92, 17, 16, 93, 94, 95, 96, 97, 98, 99, 100, 101, 102, 103, 104, 105, 106, 107, 108, 109, 110, 111, 112, 19, 113, 114, 115, 116, 26, 117, 118, 119, 120, 23, 24, 25, 121, 122, 123, 124, 20, 125, 126, 127, 128, 27, 28, 129, 130, 131, 132, 133, 134, 18, 135, 136, 137, 138, 139, 32, 33, 34, 140, 141, 142, 143, 144, 145, 146, 147, 148, 149, 150, 151, 152, 153, 154, 155, 156, 157, 158, 159, 160, 161, 162, 163, 164, 165, 166, 167, 168, 169, 170, 171, 172, 173, 174, 175, 176, 177, 178, 179, 180, 181, 182, 183, 184, 185, 186, 187, 188, 189, 190, 191, 192, 193, 194, 195, 196, 197, 198, 199, 200, 201, 202, 203, 204, 205, 206, 22, 207, 208, 209, 210, 211, 212, 213, 214, 215, 216, 217, 218, 219, 220, 221, 222, 223, 224, 225, 226, 227, 228, 229, 230, 21, 231, 232, 233, 234, 235, 236, 237, 238, 239, 279, 280, 281, 282, 283, 284, 285, 286, 266, 267, 268, 269, 270, 271, 272, 273, 274, 275, 276, 277, 278, 287, 288, 289, 290, 291] (by decide +kernel) (by decide +kernel)
set_option maxRecDepth 20000 in
theorem gX4_play_X2_doAll : GoodIn wsX4_play (wsV RX4 158 RX2 yX2_doAll wsX2_doAll) := goodIn_app (goodIn_of _ (by decide +kernel)) ggX4_play_X2_doAll
set_option maxRecDepth 20000 in
theorem ggX4_play_X2_ordersDone : GoodIn wsX4_play wsX2_ordersDone := goodIn_r _ [243, 44, 279, 280, 281, 282, 283, 284, 285, 286] (by decide +kernel) (by decide +kernel)
set_option maxRecDepth 20000 in
theorem gX4_play_X2_ordersDone : GoodIn wsX4_play (wsV RX4 171 RX2 yX2_ordersDone wsX2_ordersDone) := goodIn_app (goodIn_of _ (by decide +kernel)) ggX4_play_X2_ordersDone
set_option maxRecDepth 20000 in
theorem ggX4_play_X4_settled : GoodIn wsX4_play wsX4_settled := goodIn_r _ [247, 248, 10, 9, 249, 250, 251, 252, 253, 254, 255, 256, 257, 258, 259, 260, 12, 13, 14, 15, 16, 17, 18, 19, 20, 21, 22, 23, 24, 25, 26, 27, 28, 29, 7, 30, 31, 32, 33, 34, 35, 36, 37, 38, 11, 261, 262, 263, 264, 265, 292, 293, 266, 267, 268, 269, 270, 271, 272, 273, 274, 275, 276, 277, 278] (by decide +kernel) (by decide +kernel)
set_option maxRecDepth 20000 in
theorem gX4_play_X4_settled : GoodIn wsX4_play (wsV RX4 48 RX4 yX4_settled wsX4_settled) := goodIn_app (goodIn_of _ (by decide +kernel)) ggX4_play_X4_settled
theorem dX4_play_0 : decode cX4_play 0 = .ok (.aload_n 0, 1) := by decide +kernel
theorem dX4_play_1 : decode cX4_play 1 = .ok (.aload_n 0, 1) := by decide +kernel
theorem dX4_play_2 : decode cX4_play 2 = .ok (.getfield 36, 3) := by decide +kernel
theorem dX4_play_5 : decode cX4_play 5 = .ok (.aload_n 0, 1) := by decide +kernel
theorem dX4_play_6 : decode cX4_play 6 = .ok (.invokevirtual 40, 3) := by decide +kernel
theorem dX4_play_9 : decode cX4_play 9 = .ok (.aload_n 0, 1) := by decide +kernel
theorem dX4_play_10 : decode cX4_play 10 = .ok (.getfield 29, 3) := by decide +kernel
theorem dX4_play_13 : decode cX4_play 13 = .ok (.invokevirtual 158, 3) := by decide +kernel
theorem dX4_play_16 : decode cX4_play 16 = .ok (.ifCond .eq 13, 3) := by decide +kernel
theorem dX4_play_19 : decode cX4_play 19 = .ok (.aload_n 0, 1) := by decide +kernel
theorem dX4_play_20 : decode cX4_play 20 = .ok (.getfield 36, 3) := by decide +kernel
theorem dX4_play_23 : decode cX4_play 23 = .ok (.invokevirtual 171, 3) := by decide +kernel
theorem dX4_play_26 : decode cX4_play 26 = .ok (.goto 5, 3) := by decide +kernel
theorem dX4_play_29 : decode cX4_play 29 = .ok (.ldc 174, 2) := by decide +kernel
theorem dX4_play_31 : decode cX4_play 31 = .ok (.invokevirtual 48, 3) := by decide +kernel
theorem dX4_play_34 : decode cX4_play 34 = .ok (.ireturn, 1) := by decide +kernel
set_option maxRecDepth 20000 in
theorem ggX4_freshTrial_X0_copyFrom : GoodIn wsX4_freshTrial wsX0_copyFrom := goodIn_r _ [7, 8, 9, 10, 11, 12, 13, 14, 15, 16, 17, 18, 19, 20, 21, 22, 23, 24, 25, 26, 27, 28, 29, 30, 31, 37, 38, 39, 40, 41, 42, 43, 44, 45, 46, 47, 48, 49] (by decide +kernel) (by decide +kernel)
set_option maxRecDepth 20000 in
theorem gX4_freshTrial_X0_copyFrom : GoodIn wsX4_freshTrial (wsV RX4 175 RX0 yX0_copyFrom wsX0_copyFrom) := goodIn_app (goodIn_of _ (by decide +kernel)) ggX4_freshTrial_X0_copyFrom
theorem dX4_freshTrial_0 : decode cX4_freshTrial 0 = .ok (.aload_n 0, 1) := by decide +kernel
theorem dX4_freshTrial_1 : decode cX4_freshTrial 1 = .ok (.getfield 16, 3) := by decide +kernel
theorem dX4_freshTrial_4 : decode cX4_freshTrial 4 = .ok (.aload_n 0, 1) := by decide +kernel
theorem dX4_freshTrial_5 : decode cX4_freshTrial 5 = .ok (.getfield 10, 3) := by decide +kernel
theorem dX4_freshTrial_8 : decode cX4_freshTrial 8 = .ok (.invokevirtual 175, 3) := by decide +kernel
theorem dX4_freshTrial_11 : decode cX4_freshTrial 11 = .ok (.aload_n 0, 1) := by decide +kernel
theorem dX4_freshTrial_12 : decode cX4_freshTrial 12 = .ok (.getfield 16, 3) := by decide +kernel
theorem dX4_freshTrial_15 : decode cX4_freshTrial 15 = .ok (.areturn, 1) := by decide +kernel
set_option maxRecDepth 20000 in
theorem ggX4_settled_X1_keep : GoodIn wsX4_settled wsX1_keep := goodIn_r _ [8, 9, 10, 11, 12, 13, 7, 14, 15, 16, 17, 18, 19, 20, 21, 22, 23, 24, 25, 26, 27, 28, 29, 30, 31, 32, 33, 34, 35, 36, 37, 38, 39, 40, 41, 42, 43, 50, 51, 52, 53, 54, 55, 56, 57, 58, 59, 60, 61, 62, 63, 64] (by decide +kernel) (by decide +kernel)
set_option maxRecDepth 20000 in
theorem gX4_settled_X1_keep : GoodIn wsX4_settled (wsV RX4 179 RX1 yX1_keep wsX1_keep) := goodIn_app (goodIn_of _ (by decide +kernel)) ggX4_settled_X1_keep
set_option maxRecDepth 20000 in
theorem ggX4_settled_X0_copyFrom : GoodIn wsX4_settled wsX0_copyFrom := goodIn_r _ [19, 20, 21, 22, 23, 24, 25, 26, 27, 28, 29, 30, 31, 32, 33, 34, 35, 36, 37, 38, 39, 40, 41, 42, 43, 52, 53, 54, 55, 56, 57, 58, 59, 60, 61, 62, 63, 64] (by decide +kernel) (by decide +kernel)
set_option maxRecDepth 20000 in
theorem gX4_settled_X0_copyFrom : GoodIn wsX4_settled (wsV RX4 175 RX0 yX0_copyFrom wsX0_copyFrom) := goodIn_app (goodIn_of _ (by decide +kernel)) ggX4_settled_X0_copyFrom
theorem dX4_settled_0 : decode cX4_settled 0 = .ok (.iload_n 1, 1) := by decide +kernel
theorem dX4_settled_1 : decode cX4_settled 1 = .ok (.ifCond .lt 25, 3) := by decide +kernel
theorem dX4_settled_4 : decode cX4_settled 4 = .ok (.aload_n 0, 1) := by decide +kernel
theorem dX4_settled_5 : decode cX4_settled 5 = .ok (.getfield 22, 3) := by decide +kernel
theorem dX4_settled_8 : decode cX4_settled 8 = .ok (.aload_n 0, 1) := by decide +kernel
theorem dX4_settled_9 : decode cX4_settled 9 = .ok (.getfield 10, 3) := by decide +kernel
theorem dX4_settled_12 : decode cX4_settled 12 = .ok (.invokevirtual 179, 3) := by decide +kernel
theorem dX4_settled_15 : decode cX4_settled 15 = .ok (.aload_n 0, 1) := by decide +kernel
theorem dX4_settled_16 : decode cX4_settled 16 = .ok (.getfield 10, 3) := by decide +kernel
theorem dX4_settled_19 : decode cX4_settled 19 = .ok (.aload_n 0, 1) := by decide +kernel
theorem dX4_settled_20 : decode cX4_settled 20 = .ok (.getfield 16, 3) := by decide +kernel
theorem dX4_settled_23 : decode cX4_settled 23 = .ok (.invokevirtual 175, 3) := by decide +kernel
theorem dX4_settled_26 : decode cX4_settled 26 = .ok (.iload_n 1, 1) := by decide +kernel
theorem dX4_settled_27 : decode cX4_settled 27 = .ok (.ireturn, 1) := by decide +kernel
theorem dX4_isKind_0 : decode cX4_isKind 0 = .ok (.iload_n 0, 1) := by decide +kernel
theorem dX4_isKind_1 : decode cX4_isKind 1 = .ok (.ifCond .lt 12, 3) := by decide +kernel
theorem dX4_isKind_4 : decode cX4_isKind 4 = .ok (.iload_n 0, 1) := by decide +kernel
theorem dX4_isKind_5 : decode cX4_isKind 5 = .ok (.iconst 4, 1) := by decide +kernel
theorem dX4_isKind_6 : decode cX4_isKind 6 = .ok (.if_icmp .ge 7, 3) := by decide +kernel
theorem dX4_isKind_9 : decode cX4_isKind 9 = .ok (.iconst 1, 1) := by decide +kernel
theorem dX4_isKind_10 : decode cX4_isKind 10 = .ok (.goto 4, 3) := by decide +kernel
theorem dX4_isKind_13 : decode cX4_isKind 13 = .ok (.iconst 0, 1) := by decide +kernel
theorem dX4_isKind_14 : decode cX4_isKind 14 = .ok (.ireturn, 1) := by decide +kernel
theorem dX4_isMany_0 : decode cX4_isMany 0 = .ok (.iload_n 0, 1) := by decide +kernel
theorem dX4_isMany_1 : decode cX4_isMany 1 = .ok (.iconst 1, 1) := by decide +kernel
theorem dX4_isMany_2 : decode cX4_isMany 2 = .ok (.if_icmp .lt 13, 3) := by decide +kernel
theorem dX4_isMany_5 : decode cX4_isMany 5 = .ok (.iload_n 0, 1) := by decide +kernel
theorem dX4_isMany_6 : decode cX4_isMany 6 = .ok (.bipush 9, 2) := by decide +kernel
theorem dX4_isMany_8 : decode cX4_isMany 8 = .ok (.if_icmp .gt 7, 3) := by decide +kernel
theorem dX4_isMany_11 : decode cX4_isMany 11 = .ok (.iconst 1, 1) := by decide +kernel
theorem dX4_isMany_12 : decode cX4_isMany 12 = .ok (.goto 4, 3) := by decide +kernel
theorem dX4_isMany_15 : decode cX4_isMany 15 = .ok (.iconst 0, 1) := by decide +kernel
theorem dX4_isMany_16 : decode cX4_isMany 16 = .ok (.ireturn, 1) := by decide +kernel
theorem dX4_at_0 : decode cX4_at 0 = .ok (.iload_n 1, 1) := by decide +kernel
theorem dX4_at_1 : decode cX4_at 1 = .ok (.ifCond .lt 15, 3) := by decide +kernel
theorem dX4_at_4 : decode cX4_at 4 = .ok (.iload_n 1, 1) := by decide +kernel
theorem dX4_at_5 : decode cX4_at 5 = .ok (.aload_n 0, 1) := by decide +kernel
theorem dX4_at_6 : decode cX4_at 6 = .ok (.arraylength, 1) := by decide +kernel
theorem dX4_at_7 : decode cX4_at 7 = .ok (.if_icmp .ge 9, 3) := by decide +kernel
theorem dX4_at_10 : decode cX4_at 10 = .ok (.aload_n 0, 1) := by decide +kernel
theorem dX4_at_11 : decode cX4_at 11 = .ok (.iload_n 1, 1) := by decide +kernel
theorem dX4_at_12 : decode cX4_at 12 = .ok (.iaload, 1) := by decide +kernel
theorem dX4_at_13 : decode cX4_at 13 = .ok (.goto 4, 3) := by decide +kernel
theorem dX4_at_16 : decode cX4_at 16 = .ok (.iconst 0, 1) := by decide +kernel
theorem dX4_at_17 : decode cX4_at 17 = .ok (.ireturn, 1) := by decide +kernel
theorem dX4_put_0 : decode cX4_put 0 = .ok (.iload_n 1, 1) := by decide +kernel
theorem dX4_put_1 : decode cX4_put 1 = .ok (.ifCond .lt 13, 3) := by decide +kernel
theorem dX4_put_4 : decode cX4_put 4 = .ok (.iload_n 1, 1) := by decide +kernel
theorem dX4_put_5 : decode cX4_put 5 = .ok (.aload_n 0, 1) := by decide +kernel
theorem dX4_put_6 : decode cX4_put 6 = .ok (.arraylength, 1) := by decide +kernel
theorem dX4_put_7 : decode cX4_put 7 = .ok (.if_icmp .ge 7, 3) := by decide +kernel
theorem dX4_put_10 : decode cX4_put 10 = .ok (.aload_n 0, 1) := by decide +kernel
theorem dX4_put_11 : decode cX4_put 11 = .ok (.iload_n 1, 1) := by decide +kernel
theorem dX4_put_12 : decode cX4_put 12 = .ok (.iload_n 2, 1) := by decide +kernel
theorem dX4_put_13 : decode cX4_put 13 = .ok (.iastore, 1) := by decide +kernel
theorem dX4_put_14 : decode cX4_put 14 = .ok (.return_, 1) := by decide +kernel
theorem dX4_add_0 : decode cX4_add 0 = .ok (.iload_n 1, 1) := by decide +kernel
theorem dX4_add_1 : decode cX4_add 1 = .ok (.ifCond .lt 16, 3) := by decide +kernel
theorem dX4_add_4 : decode cX4_add 4 = .ok (.iload_n 1, 1) := by decide +kernel
theorem dX4_add_5 : decode cX4_add 5 = .ok (.aload_n 0, 1) := by decide +kernel
theorem dX4_add_6 : decode cX4_add 6 = .ok (.arraylength, 1) := by decide +kernel
theorem dX4_add_7 : decode cX4_add 7 = .ok (.if_icmp .ge 10, 3) := by decide +kernel
theorem dX4_add_10 : decode cX4_add 10 = .ok (.aload_n 0, 1) := by decide +kernel
theorem dX4_add_11 : decode cX4_add 11 = .ok (.iload_n 1, 1) := by decide +kernel
theorem dX4_add_12 : decode cX4_add 12 = .ok (.dup2, 1) := by decide +kernel
theorem dX4_add_13 : decode cX4_add 13 = .ok (.iaload, 1) := by decide +kernel
theorem dX4_add_14 : decode cX4_add 14 = .ok (.iload_n 2, 1) := by decide +kernel
theorem dX4_add_15 : decode cX4_add 15 = .ok (.iadd, 1) := by decide +kernel
theorem dX4_add_16 : decode cX4_add 16 = .ok (.iastore, 1) := by decide +kernel
theorem dX4_add_17 : decode cX4_add 17 = .ok (.return_, 1) := by decide +kernel
theorem dX4_copyRow_0 : decode cX4_copyRow 0 = .ok (.aload_n 0, 1) := by decide +kernel
theorem dX4_copyRow_1 : decode cX4_copyRow 1 = .ok (.iconst 0, 1) := by decide +kernel
theorem dX4_copyRow_2 : decode cX4_copyRow 2 = .ok (.aload_n 1, 1) := by decide +kernel
theorem dX4_copyRow_3 : decode cX4_copyRow 3 = .ok (.iconst 0, 1) := by decide +kernel
theorem dX4_copyRow_4 : decode cX4_copyRow 4 = .ok (.aload_n 0, 1) := by decide +kernel
theorem dX4_copyRow_5 : decode cX4_copyRow 5 = .ok (.arraylength, 1) := by decide +kernel
theorem dX4_copyRow_6 : decode cX4_copyRow 6 = .ok (.aload_n 1, 1) := by decide +kernel
theorem dX4_copyRow_7 : decode cX4_copyRow 7 = .ok (.arraylength, 1) := by decide +kernel
theorem dX4_copyRow_8 : decode cX4_copyRow 8 = .ok (.invokestatic 182, 3) := by decide +kernel
theorem dX4_copyRow_11 : decode cX4_copyRow 11 = .ok (.invokestatic 187, 3) := by decide +kernel
theorem dX4_copyRow_14 : decode cX4_copyRow 14 = .ok (.return_, 1) := by decide +kernel
theorem dX4_firstOfSetting_0 : decode cX4_firstOfSetting 0 = .ok (.iload_n 0, 1) := by decide +kernel
theorem dX4_firstOfSetting_1 : decode cX4_firstOfSetting 1 = .ok (.lookupswitch 32 #[(4, 27), (5, 30)], 27) := by decide +kernel
theorem dX4_firstOfSetting_28 : decode cX4_firstOfSetting 28 = .ok (.bipush 20, 2) := by decide +kernel
theorem dX4_firstOfSetting_30 : decode cX4_firstOfSetting 30 = .ok (.ireturn, 1) := by decide +kernel
theorem dX4_firstOfSetting_31 : decode cX4_firstOfSetting 31 = .ok (.iconst 3, 1) := by decide +kernel
theorem dX4_firstOfSetting_32 : decode cX4_firstOfSetting 32 = .ok (.ireturn, 1) := by decide +kernel
theorem dX4_firstOfSetting_33 : decode cX4_firstOfSetting 33 = .ok (.iconst 4, 1) := by decide +kernel
theorem dX4_firstOfSetting_34 : decode cX4_firstOfSetting 34 = .ok (.iconst 2, 1) := by decide +kernel
theorem dX4_firstOfSetting_35 : decode cX4_firstOfSetting 35 = .ok (.iload_n 0, 1) := by decide +kernel
theorem dX4_firstOfSetting_36 : decode cX4_firstOfSetting 36 = .ok (.imul, 1) := by decide +kernel
theorem dX4_firstOfSetting_37 : decode cX4_firstOfSetting 37 = .ok (.iadd, 1) := by decide +kernel
theorem dX4_firstOfSetting_38 : decode cX4_firstOfSetting 38 = .ok (.ireturn, 1) := by decide +kernel
theorem dX4_mostOfSetting_0 : decode cX4_mostOfSetting 0 = .ok (.iload_n 0, 1) := by decide +kernel
theorem dX4_mostOfSetting_1 : decode cX4_mostOfSetting 1 = .ok (.iconst 4, 1) := by decide +kernel
theorem dX4_mostOfSetting_2 : decode cX4_mostOfSetting 2 = .ok (.if_icmp .ne 8, 3) := by decide +kernel
theorem dX4_mostOfSetting_5 : decode cX4_mostOfSetting 5 = .ok (.bipush 99, 2) := by decide +kernel
theorem dX4_mostOfSetting_7 : decode cX4_mostOfSetting 7 = .ok (.goto 5, 3) := by decide +kernel
theorem dX4_mostOfSetting_10 : decode cX4_mostOfSetting 10 = .ok (.bipush 20, 2) := by decide +kernel
theorem dX4_mostOfSetting_12 : decode cX4_mostOfSetting 12 = .ok (.ireturn, 1) := by decide +kernel
theorem dX4_bitsOf_0 : decode cX4_bitsOf 0 = .ok (.fload_n 0, 1) := by decide +kernel
theorem dX4_bitsOf_1 : decode cX4_bitsOf 1 = .ok (.fconst 0, 1) := by decide +kernel
theorem dX4_bitsOf_2 : decode cX4_bitsOf 2 = .ok (.fcmp .l, 1) := by decide +kernel
theorem dX4_bitsOf_3 : decode cX4_bitsOf 3 = .ok (.ifCond .gt 5, 3) := by decide +kernel
theorem dX4_bitsOf_6 : decode cX4_bitsOf 6 = .ok (.iconst 0, 1) := by decide +kernel
theorem dX4_bitsOf_7 : decode cX4_bitsOf 7 = .ok (.ireturn, 1) := by decide +kernel
theorem dX4_bitsOf_8 : decode cX4_bitsOf 8 = .ok (.fload_n 0, 1) := by decide +kernel
theorem dX4_bitsOf_9 : decode cX4_bitsOf 9 = .ok (.fstore_n 1, 1) := by decide +kernel
theorem dX4_bitsOf_10 : decode cX4_bitsOf 10 = .ok (.bipush 127, 2) := by decide +kernel
theorem dX4_bitsOf_12 : decode cX4_bitsOf 12 = .ok (.istore_n 2, 1) := by decide +kernel
theorem dX4_bitsOf_13 : decode cX4_bitsOf 13 = .ok (.iconst 0, 1) := by decide +kernel
theorem dX4_bitsOf_14 : decode cX4_bitsOf 14 = .ok (.istore_n 3, 1) := by decide +kernel
theorem dX4_bitsOf_15 : decode cX4_bitsOf 15 = .ok (.iload_n 3, 1) := by decide +kernel
theorem dX4_bitsOf_16 : decode cX4_bitsOf 16 = .ok (.bipush 127, 2) := by decide +kernel
theorem dX4_bitsOf_18 : decode cX4_bitsOf 18 = .ok (.if_icmp .ge 22, 3) := by decide +kernel
theorem dX4_bitsOf_21 : decode cX4_bitsOf 21 = .ok (.fload_n 1, 1) := by decide +kernel
theorem dX4_bitsOf_22 : decode cX4_bitsOf 22 = .ok (.fconst 2, 1) := by decide +kernel
theorem dX4_bitsOf_23 : decode cX4_bitsOf 23 = .ok (.fcmp .l, 1) := by decide +kernel
theorem dX4_bitsOf_24 : decode cX4_bitsOf 24 = .ok (.ifCond .lt 16, 3) := by decide +kernel
theorem dX4_bitsOf_27 : decode cX4_bitsOf 27 = .ok (.fload_n 1, 1) := by decide +kernel
theorem dX4_bitsOf_28 : decode cX4_bitsOf 28 = .ok (.fconst 2, 1) := by decide +kernel
theorem dX4_bitsOf_29 : decode cX4_bitsOf 29 = .ok (.fdiv, 1) := by decide +kernel
theorem dX4_bitsOf_30 : decode cX4_bitsOf 30 = .ok (.fstore_n 1, 1) := by decide +kernel
theorem dX4_bitsOf_31 : decode cX4_bitsOf 31 = .ok (.iinc 2 1, 3) := by decide +kernel
theorem dX4_bitsOf_34 : decode cX4_bitsOf 34 = .ok (.iinc 3 1, 3) := by decide +kernel
theorem dX4_bitsOf_37 : decode cX4_bitsOf 37 = .ok (.goto (-22), 3) := by decide +kernel
theorem dX4_bitsOf_40 : decode cX4_bitsOf 40 = .ok (.iconst 0, 1) := by decide +kernel
theorem dX4_bitsOf_41 : decode cX4_bitsOf 41 = .ok (.istore_n 3, 1) := by decide +kernel
theorem dX4_bitsOf_42 : decode cX4_bitsOf 42 = .ok (.iload_n 3, 1) := by decide +kernel
theorem dX4_bitsOf_43 : decode cX4_bitsOf 43 = .ok (.bipush 126, 2) := by decide +kernel
theorem dX4_bitsOf_45 : decode cX4_bitsOf 45 = .ok (.if_icmp .ge 22, 3) := by decide +kernel
theorem dX4_bitsOf_48 : decode cX4_bitsOf 48 = .ok (.fload_n 1, 1) := by decide +kernel
theorem dX4_bitsOf_49 : decode cX4_bitsOf 49 = .ok (.fconst 1, 1) := by decide +kernel
theorem dX4_bitsOf_50 : decode cX4_bitsOf 50 = .ok (.fcmp .g, 1) := by decide +kernel
theorem dX4_bitsOf_51 : decode cX4_bitsOf 51 = .ok (.ifCond .ge 16, 3) := by decide +kernel
theorem dX4_bitsOf_54 : decode cX4_bitsOf 54 = .ok (.fload_n 1, 1) := by decide +kernel
theorem dX4_bitsOf_55 : decode cX4_bitsOf 55 = .ok (.fconst 2, 1) := by decide +kernel
theorem dX4_bitsOf_56 : decode cX4_bitsOf 56 = .ok (.fmul, 1) := by decide +kernel
theorem dX4_bitsOf_57 : decode cX4_bitsOf 57 = .ok (.fstore_n 1, 1) := by decide +kernel
theorem dX4_bitsOf_58 : decode cX4_bitsOf 58 = .ok (.iinc 2 (-1), 3) := by decide +kernel
theorem dX4_bitsOf_61 : decode cX4_bitsOf 61 = .ok (.iinc 3 1, 3) := by decide +kernel
theorem dX4_bitsOf_64 : decode cX4_bitsOf 64 = .ok (.goto (-22), 3) := by decide +kernel
theorem dX4_bitsOf_67 : decode cX4_bitsOf 67 = .ok (.iload_n 2, 1) := by decide +kernel
theorem dX4_bitsOf_68 : decode cX4_bitsOf 68 = .ok (.bipush 23, 2) := by decide +kernel
theorem dX4_bitsOf_70 : decode cX4_bitsOf 70 = .ok (.ishl, 1) := by decide +kernel
theorem dX4_bitsOf_71 : decode cX4_bitsOf 71 = .ok (.fload_n 1, 1) := by decide +kernel
theorem dX4_bitsOf_72 : decode cX4_bitsOf 72 = .ok (.fconst 1, 1) := by decide +kernel
theorem dX4_bitsOf_73 : decode cX4_bitsOf 73 = .ok (.fsub, 1) := by decide +kernel
theorem dX4_bitsOf_74 : decode cX4_bitsOf 74 = .ok (.ldc 193, 2) := by decide +kernel
theorem dX4_bitsOf_76 : decode cX4_bitsOf 76 = .ok (.fmul, 1) := by decide +kernel
theorem dX4_bitsOf_77 : decode cX4_bitsOf 77 = .ok (.f2i, 1) := by decide +kernel
theorem dX4_bitsOf_78 : decode cX4_bitsOf 78 = .ok (.iadd, 1) := by decide +kernel
theorem dX4_bitsOf_79 : decode cX4_bitsOf 79 = .ok (.ireturn, 1) := by decide +kernel

theorem dX4_freshTrial_1 : decode cX4_freshTrial 1 = .ok (.getfield 16, 3) := by decide +kernel
theorem dX4_freshTrial_4 : decode cX4_freshTrial 4 = .ok (.aload_n 0, 1) := by decide +kernel
theorem dX4_freshTrial_5 : decode cX4_freshTrial 5 = .ok (.getfield 10, 3) := by decide +kernel
theorem dX4_freshTrial_8 : decode cX4_freshTrial 8 = .ok (.invokevirtual 175, 3) := by decide +kernel
theorem dX4_freshTrial_11 : decode cX4_freshTrial 11 = .ok (.aload_n 0, 1) := by decide +kernel
theorem dX4_freshTrial_12 : decode cX4_freshTrial 12 = .ok (.getfield 16, 3) := by decide +kernel
theorem dX4_freshTrial_15 : decode cX4_freshTrial 15 = .ok (.areturn, 1) := by decide +kernel
set_option maxRecDepth 20000 in
theorem ggX4_settled_X1_keep : GoodIn wsX4_settled wsX1_keep := goodIn_r _ [8, 9, 10, 11, 12, 13, 7, 14, 15, 16, 17, 18, 19, 20, 21, 22, 23, 24, 25, 26, 27, 28, 29, 30, 31, 32, 33, 34, 35, 36, 37, 38, 39, 40, 41, 42, 43, 50, 51, 52, 53, 54, 55, 56, 57, 58, 59, 60, 61, 62, 63, 64] (by decide +kernel) (by decide +kernel)
set_option maxRecDepth 20000 in
theorem gX4_settled_X1_keep : GoodIn wsX4_settled (wsV RX4 179 RX1 yX1_keep wsX1_keep) := goodIn_app (goodIn_of _ (by decide +kernel)) ggX4_settled_X1_keep
set_option maxRecDepth 20000 in
theorem ggX4_settled_X0_copyFrom : GoodIn wsX4_settled wsX0_copyFrom := goodIn_r _ [19, 20, 21, 22, 23, 24, 25, 26, 27, 28, 29, 30, 31, 32, 33, 34, 35, 36, 37, 38, 39, 40, 41, 42, 43, 52, 53, 54, 55, 56, 57, 58, 59, 60, 61, 62, 63, 64] (by decide +kernel) (by decide +kernel)
set_option maxRecDepth 20000 in
theorem gX4_settled_X0_copyFrom : GoodIn wsX4_settled (wsV RX4 175 RX0 yX0_copyFrom wsX0_copyFrom) := goodIn_app (goodIn_of _ (by decide +kernel)) ggX4_settled_X0_copyFrom
theorem dX4_settled_0 : decode cX4_settled 0 = .ok (.iload_n 1, 1) := by decide +kernel
theorem dX4_settled_1 : decode cX4_settled 1 = .ok (.ifCond .lt 25, 3) := by decide +kernel
theorem dX4_settled_4 : decode cX4_settled 4 = .ok (.aload_n 0, 1) := by decide +kernel
theorem dX4_settled_5 : decode cX4_settled 5 = .ok (.getfield 22, 3) := by decide +kernel
theorem dX4_settled_8 : decode cX4_settled 8 = .ok (.aload_n 0, 1) := by decide +kernel
theorem dX4_settled_9 : decode cX4_settled 9 = .ok (.getfield 10, 3) := by decide +kernel
theorem dX4_settled_12 : decode cX4_settled 12 = .ok (.invokevirtual 179, 3) := by decide +kernel
theorem dX4_settled_15 : decode cX4_settled 15 = .ok (.aload_n 0, 1) := by decide +kernel
theorem dX4_settled_16 : decode cX4_settled 16 = .ok (.getfield 10, 3) := by decide +kernel
theorem dX4_settled_19 : decode cX4_settled 19 = .ok (.aload_n 0, 1) := by decide +kernel
theorem dX4_settled_20 : decode cX4_settled 20 = .ok (.getfield 16, 3) := by decide +kernel
theorem dX4_settled_23 : decode cX4_settled 23 = .ok (.invokevirtual 175, 3) := by decide +kernel
theorem dX4_settled_26 : decode cX4_settled 26 = .ok (.iload_n 1, 1) := by decide +kernel
theorem dX4_settled_27 : decode cX4_settled 27 = .ok (.ireturn, 1) := by decide +kernel
theorem dX4_isKind_0 : decode cX4_isKind 0 = .ok (.iload_n 0, 1) := by decide +kernel
theorem dX4_isKind_1 : decode cX4_isKind 1 = .ok (.ifCond .lt 12, 3) := by decide +kernel
theorem dX4_isKind_4 : decode cX4_isKind 4 = .ok (.iload_n 0, 1) := by decide +kernel
theorem dX4_isKind_5 : decode cX4_isKind 5 = .ok (.iconst 4, 1) := by decide +kernel
theorem dX4_isKind_6 : decode cX4_isKind 6 = .ok (.if_icmp .ge 7, 3) := by decide +kernel
theorem dX4_isKind_9 : decode cX4_isKind 9 = .ok (.iconst 1, 1) := by decide +kernel
theorem dX4_isKind_10 : decode cX4_isKind 10 = .ok (.goto 4, 3) := by decide +kernel
theorem dX4_isKind_13 : decode cX4_isKind 13 = .ok (.iconst 0, 1) := by decide +kernel
theorem dX4_isKind_14 : decode cX4_isKind 14 = .ok (.ireturn, 1) := by decide +kernel
theorem dX4_isMany_0 : decode cX4_isMany 0 = .ok (.iload_n 0, 1) := by decide +kernel
theorem dX4_isMany_1 : decode cX4_isMany 1 = .ok (.iconst 1, 1) := by decide +kernel
theorem dX4_isMany_2 : decode cX4_isMany 2 = .ok (.if_icmp .lt 13, 3) := by decide +kernel
theorem dX4_isMany_5 : decode cX4_isMany 5 = .ok (.iload_n 0, 1) := by decide +kernel
theorem dX4_isMany_6 : decode cX4_isMany 6 = .ok (.bipush 9, 2) := by decide +kernel
theorem dX4_isMany_8 : decode cX4_isMany 8 = .ok (.if_icmp .gt 7, 3) := by decide +kernel
theorem dX4_isMany_11 : decode cX4_isMany 11 = .ok (.iconst 1, 1) := by decide +kernel
theorem dX4_isMany_12 : decode cX4_isMany 12 = .ok (.goto 4, 3) := by decide +kernel
theorem dX4_isMany_15 : decode cX4_isMany 15 = .ok (.iconst 0, 1) := by decide +kernel
theorem dX4_isMany_16 : decode cX4_isMany 16 = .ok (.ireturn, 1) := by decide +kernel
theorem dX4_at_0 : decode cX4_at 0 = .ok (.iload_n 1, 1) := by decide +kernel
theorem dX4_at_1 : decode cX4_at 1 = .ok (.ifCond .lt 15, 3) := by decide +kernel
theorem dX4_at_4 : decode cX4_at 4 = .ok (.iload_n 1, 1) := by decide +kernel
theorem dX4_at_5 : decode cX4_at 5 = .ok (.aload_n 0, 1) := by decide +kernel
theorem dX4_at_6 : decode cX4_at 6 = .ok (.arraylength, 1) := by decide +kernel
theorem dX4_at_7 : decode cX4_at 7 = .ok (.if_icmp .ge 9, 3) := by decide +kernel
theorem dX4_at_10 : decode cX4_at 10 = .ok (.aload_n 0, 1) := by decide +kernel
theorem dX4_at_11 : decode cX4_at 11 = .ok (.iload_n 1, 1) := by decide +kernel
theorem dX4_at_12 : decode cX4_at 12 = .ok (.iaload, 1) := by decide +kernel
theorem dX4_at_13 : decode cX4_at 13 = .ok (.goto 4, 3) := by decide +kernel
theorem dX4_at_16 : decode cX4_at 16 = .ok (.iconst 0, 1) := by decide +kernel
theorem dX4_at_17 : decode cX4_at 17 = .ok (.ireturn, 1) := by decide +kernel
theorem dX4_put_0 : decode cX4_put 0 = .ok (.iload_n 1, 1) := by decide +kernel
theorem dX4_put_1 : decode cX4_put 1 = .ok (.ifCond .lt 13, 3) := by decide +kernel
theorem dX4_put_4 : decode cX4_put 4 = .ok (.iload_n 1, 1) := by decide +kernel
theorem dX4_put_5 : decode cX4_put 5 = .ok (.aload_n 0, 1) := by decide +kernel
theorem dX4_put_6 : decode cX4_put 6 = .ok (.arraylength, 1) := by decide +kernel
theorem dX4_put_7 : decode cX4_put 7 = .ok (.if_icmp .ge 7, 3) := by decide +kernel
theorem dX4_put_10 : decode cX4_put 10 = .ok (.aload_n 0, 1) := by decide +kernel
theorem dX4_put_11 : decode cX4_put 11 = .ok (.iload_n 1, 1) := by decide +kernel
theorem dX4_put_12 : decode cX4_put 12 = .ok (.iload_n 2, 1) := by decide +kernel
theorem dX4_put_13 : decode cX4_put 13 = .ok (.iastore, 1) := by decide +kernel
theorem dX4_put_14 : decode cX4_put 14 = .ok (.return_, 1) := by decide +kernel
theorem dX4_add_0 : decode cX4_add 0 = .ok (.iload_n 1, 1) := by decide +kernel
theorem dX4_add_1 : decode cX4_add 1 = .ok (.ifCond .lt 16, 3) := by decide +kernel
theorem dX4_add_4 : decode cX4_add 4 = .ok (.iload_n 1, 1) := by decide +kernel
theorem dX4_add_5 : decode cX4_add 5 = .ok (.aload_n 0, 1) := by decide +kernel
theorem dX4_add_6 : decode cX4_add 6 = .ok (.arraylength, 1) := by decide +kernel
theorem dX4_add_7 : decode cX4_add 7 = .ok (.if_icmp .ge 10, 3) := by decide +kernel
theorem dX4_add_10 : decode cX4_add 10 = .ok (.aload_n 0, 1) := by decide +kernel
theorem dX4_add_11 : decode cX4_add 11 = .ok (.iload_n 1, 1) := by decide +kernel
theorem dX4_add_12 : decode cX4_add 12 = .ok (.dup2, 1) := by decide +kernel
theorem dX4_add_13 : decode cX4_add 13 = .ok (.iaload, 1) := by decide +kernel
theorem dX4_add_14 : decode cX4_add 14 = .ok (.iload_n 2, 1) := by decide +kernel
theorem dX4_add_15 : decode cX4_add 15 = .ok (.iadd, 1) := by decide +kernel
theorem dX4_add_16 : decode cX4_add 16 = .ok (.iastore, 1) := by decide +kernel
theorem dX4_add_17 : decode cX4_add 17 = .ok (.return_, 1) := by decide +kernel
theorem dX4_copyRow_0 : decode cX4_copyRow 0 = .ok (.aload_n 0, 1) := by decide +kernel
theorem dX4_copyRow_1 : decode cX4_copyRow 1 = .ok (.iconst 0, 1) := by decide +kernel
theorem dX4_copyRow_2 : decode cX4_copyRow 2 = .ok (.aload_n 1, 1) := by decide +kernel
theorem dX4_copyRow_3 : decode cX4_copyRow 3 = .ok (.iconst 0, 1) := by decide +kernel
theorem dX4_copyRow_4 : decode cX4_copyRow 4 = .ok (.aload_n 0, 1) := by decide +kernel
theorem dX4_copyRow_5 : decode cX4_copyRow 5 = .ok (.arraylength, 1) := by decide +kernel
theorem dX4_copyRow_6 : decode cX4_copyRow 6 = .ok (.aload_n 1, 1) := by decide +kernel
theorem dX4_copyRow_7 : decode cX4_copyRow 7 = .ok (.arraylength, 1) := by decide +kernel
theorem dX4_copyRow_8 : decode cX4_copyRow 8 = .ok (.invokestatic 182, 3) := by decide +kernel
theorem dX4_copyRow_11 : decode cX4_copyRow 11 = .ok (.invokestatic 187, 3) := by decide +kernel
theorem dX4_copyRow_14 : decode cX4_copyRow 14 = .ok (.return_, 1) := by decide +kernel
theorem dX4_firstOfSetting_0 : decode cX4_firstOfSetting 0 = .ok (.iload_n 0, 1) := by decide +kernel
theorem dX4_firstOfSetting_1 : decode cX4_firstOfSetting 1 = .ok (.lookupswitch 32 #[(4, 27), (5, 30)], 27) := by decide +kernel
theorem dX4_firstOfSetting_28 : decode cX4_firstOfSetting 28 = .ok (.bipush 20, 2) := by decide +kernel
theorem dX4_firstOfSetting_30 : decode cX4_firstOfSetting 30 = .ok (.ireturn, 1) := by decide +kernel
theorem dX4_firstOfSetting_31 : decode cX4_firstOfSetting 31 = .ok (.iconst 3, 1) := by decide +kernel
theorem dX4_firstOfSetting_32 : decode cX4_firstOfSetting 32 = .ok (.ireturn, 1) := by decide +kernel
theorem dX4_firstOfSetting_33 : decode cX4_firstOfSetting 33 = .ok (.iconst 4, 1) := by decide +kernel
theorem dX4_firstOfSetting_34 : decode cX4_firstOfSetting 34 = .ok (.iconst 2, 1) := by decide +kernel
theorem dX4_firstOfSetting_35 : decode cX4_firstOfSetting 35 = .ok (.iload_n 0, 1) := by decide +kernel
theorem dX4_firstOfSetting_36 : decode cX4_firstOfSetting 36 = .ok (.imul, 1) := by decide +kernel
theorem dX4_firstOfSetting_37 : decode cX4_firstOfSetting 37 = .ok (.iadd, 1) := by decide +kernel
theorem dX4_firstOfSetting_38 : decode cX4_firstOfSetting 38 = .ok (.ireturn, 1) := by decide +kernel
theorem dX4_mostOfSetting_0 : decode cX4_mostOfSetting 0 = .ok (.iload_n 0, 1) := by decide +kernel
theorem dX4_mostOfSetting_1 : decode cX4_mostOfSetting 1 = .ok (.iconst 4, 1) := by decide +kernel
theorem dX4_mostOfSetting_2 : decode cX4_mostOfSetting 2 = .ok (.if_icmp .ne 8, 3) := by decide +kernel
theorem dX4_mostOfSetting_5 : decode cX4_mostOfSetting 5 = .ok (.bipush 99, 2) := by decide +kernel
theorem dX4_mostOfSetting_7 : decode cX4_mostOfSetting 7 = .ok (.goto 5, 3) := by decide +kernel
theorem dX4_mostOfSetting_10 : decode cX4_mostOfSetting 10 = .ok (.bipush 20, 2) := by decide +kernel
theorem dX4_mostOfSetting_12 : decode cX4_mostOfSetting 12 = .ok (.ireturn, 1) := by decide +kernel
theorem dJ9_max_7cf53_0 : decode cJ9_max_7cf53 0 = .ok (.iload_n 0, 1) := by decide +kernel
theorem dJ9_max_7cf53_1 : decode cJ9_max_7cf53 1 = .ok (.iload_n 1, 1) := by decide +kernel
theorem dJ9_max_7cf53_2 : decode cJ9_max_7cf53 2 = .ok (.if_icmp .lt 7, 3) := by decide +kernel
theorem dJ9_max_7cf53_5 : decode cJ9_max_7cf53 5 = .ok (.iload_n 0, 1) := by decide +kernel
theorem dJ9_max_7cf53_6 : decode cJ9_max_7cf53 6 = .ok (.goto 4, 3) := by decide +kernel
theorem dJ9_max_7cf53_9 : decode cJ9_max_7cf53 9 = .ok (.iload_n 1, 1) := by decide +kernel
theorem dJ9_max_7cf53_10 : decode cJ9_max_7cf53 10 = .ok (.ireturn, 1) := by decide +kernel
theorem dJ9_min_7cf53_0 : decode cJ9_min_7cf53 0 = .ok (.iload_n 0, 1) := by decide +kernel
theorem dJ9_min_7cf53_1 : decode cJ9_min_7cf53 1 = .ok (.iload_n 1, 1) := by decide +kernel
theorem dJ9_min_7cf53_2 : decode cJ9_min_7cf53 2 = .ok (.if_icmp .gt 7, 3) := by decide +kernel
theorem dJ9_min_7cf53_5 : decode cJ9_min_7cf53 5 = .ok (.iload_n 0, 1) := by decide +kernel
theorem dJ9_min_7cf53_6 : decode cJ9_min_7cf53 6 = .ok (.goto 4, 3) := by decide +kernel
theorem dJ9_min_7cf53_9 : decode cJ9_min_7cf53 9 = .ok (.iload_n 1, 1) := by decide +kernel
theorem dJ9_min_7cf53_10 : decode cJ9_min_7cf53 10 = .ok (.ireturn, 1) := by decide +kernel
theorem dL_cell_0 : decode cL_cell 0 = .ok (.iload_n 1, 1) := by decide +kernel
theorem dL_cell_1 : decode cL_cell 1 = .ok (.aload_n 0, 1) := by decide +kernel
theorem dL_cell_2 : decode cL_cell 2 = .ok (.arraylength, 1) := by decide +kernel
theorem dL_cell_3 : decode cL_cell 3 = .ok (.if_icmp .ge 9, 3) := by decide +kernel
theorem dL_cell_6 : decode cL_cell 6 = .ok (.aload_n 0, 1) := by decide +kernel
theorem dL_cell_7 : decode cL_cell 7 = .ok (.iload_n 1, 1) := by decide +kernel
theorem dL_cell_8 : decode cL_cell 8 = .ok (.iaload, 1) := by decide +kernel
theorem dL_cell_9 : decode cL_cell 9 = .ok (.goto 9, 3) := by decide +kernel
theorem dL_cell_12 : decode cL_cell 12 = .ok (.ldc 7, 2) := by decide +kernel
theorem dL_cell_14 : decode cL_cell 14 = .ok (.iload_n 1, 1) := by decide +kernel
theorem dL_cell_15 : decode cL_cell 15 = .ok (.iconst 3, 1) := by decide +kernel
theorem dL_cell_16 : decode cL_cell 16 = .ok (.iadd, 1) := by decide +kernel
theorem dL_cell_17 : decode cL_cell 17 = .ok (.imul, 1) := by decide +kernel
theorem dL_cell_18 : decode cL_cell 18 = .ok (.ireturn, 1) := by decide +kernel
theorem dL_debtor_0 : decode cL_debtor 0 = .ok (.iload_n 0, 1) := by decide +kernel
theorem dL_debtor_1 : decode cL_debtor 1 = .ok (.bipush 7, 2) := by decide +kernel
theorem dL_debtor_3 : decode cL_debtor 3 = .ok (.iand, 1) := by decide +kernel
theorem dL_debtor_4 : decode cL_debtor 4 = .ok (.ireturn, 1) := by decide +kernel
theorem dL_creditor_0 : decode cL_creditor 0 = .ok (.iload_n 0, 1) := by decide +kernel
theorem dL_creditor_1 : decode cL_creditor 1 = .ok (.iconst 3, 1) := by decide +kernel
theorem dL_creditor_2 : decode cL_creditor 2 = .ok (.ishr, 1) := by decide +kernel
theorem dL_creditor_3 : decode cL_creditor 3 = .ok (.bipush 7, 2) := by decide +kernel
theorem dL_creditor_5 : decode cL_creditor 5 = .ok (.iand, 1) := by decide +kernel
theorem dL_creditor_6 : decode cL_creditor 6 = .ok (.ireturn, 1) := by decide +kernel
theorem dL_kind_0 : decode cL_kind 0 = .ok (.iload_n 0, 1) := by decide +kernel
theorem dL_kind_1 : decode cL_kind 1 = .ok (.bipush 6, 2) := by decide +kernel
theorem dL_kind_3 : decode cL_kind 3 = .ok (.ishr, 1) := by decide +kernel
theorem dL_kind_4 : decode cL_kind 4 = .ok (.iconst 3, 1) := by decide +kernel
theorem dL_kind_5 : decode cL_kind 5 = .ok (.iand, 1) := by decide +kernel
theorem dL_kind_6 : decode cL_kind 6 = .ok (.ireturn, 1) := by decide +kernel
theorem dL_many_0 : decode cL_many 0 = .ok (.iload_n 0, 1) := by decide +kernel
theorem dL_many_1 : decode cL_many 1 = .ok (.bipush 8, 2) := by decide +kernel
theorem dL_many_3 : decode cL_many 3 = .ok (.ishr, 1) := by decide +kernel
theorem dL_many_4 : decode cL_many 4 = .ok (.bipush 15, 2) := by decide +kernel
theorem dL_many_6 : decode cL_many 6 = .ok (.iand, 1) := by decide +kernel
theorem dL_many_7 : decode cL_many 7 = .ok (.ireturn, 1) := by decide +kernel
theorem dL_age_0 : decode cL_age 0 = .ok (.iload_n 0, 1) := by decide +kernel
theorem dL_age_1 : decode cL_age 1 = .ok (.bipush 12, 2) := by decide +kernel
theorem dL_age_3 : decode cL_age 3 = .ok (.ishr, 1) := by decide +kernel
theorem dL_age_4 : decode cL_age 4 = .ok (.sipush 255, 3) := by decide +kernel
theorem dL_age_7 : decode cL_age 7 = .ok (.iand, 1) := by decide +kernel
theorem dL_age_8 : decode cL_age 8 = .ok (.ireturn, 1) := by decide +kernel
set_option maxRecDepth 20000 in
theorem ggL_owed_L_many : GoodIn wsL_owed wsL_many := goodIn_r _ [4] (by decide +kernel) (by decide +kernel)
set_option maxRecDepth 20000 in
theorem gL_owed_L_many : GoodIn wsL_owed (va_wsS RL 9 yL_many wsL_many) := goodIn_app (goodIn_of _ (by decide +kernel)) ggL_owed_L_many
theorem dL_owed_0 : decode cL_owed 0 = .ok (.iconst 0, 1) := by decide +kernel
theorem dL_owed_1 : decode cL_owed 1 = .ok (.istore 5, 2) := by decide +kernel
theorem dL_owed_3 : decode cL_owed 3 = .ok (.iconst 0, 1) := by decide +kernel
theorem dL_owed_4 : decode cL_owed 4 = .ok (.istore 6, 2) := by decide +kernel
theorem dL_owed_6 : decode cL_owed 6 = .ok (.iload 6, 2) := by decide +kernel
theorem dL_owed_8 : decode cL_owed 8 = .ok (.aload_n 1, 1) := by decide +kernel
theorem dL_owed_9 : decode cL_owed 9 = .ok (.iconst 2, 1) := by decide +kernel
theorem dL_owed_10 : decode cL_owed 10 = .ok (.iaload, 1) := by decide +kernel
theorem dL_owed_11 : decode cL_owed 11 = .ok (.if_icmp .ge 48, 3) := by decide +kernel
theorem dL_owed_14 : decode cL_owed 14 = .ok (.iload 5, 2) := by decide +kernel
theorem dL_owed_16 : decode cL_owed 16 = .ok (.aload_n 0, 1) := by decide +kernel
theorem dL_owed_17 : decode cL_owed 17 = .ok (.iload 6, 2) := by decide +kernel
theorem dL_owed_19 : decode cL_owed 19 = .ok (.iaload, 1) := by decide +kernel
theorem dL_owed_20 : decode cL_owed 20 = .ok (.sipush 255, 3) := by decide +kernel
theorem dL_owed_23 : decode cL_owed 23 = .ok (.iand, 1) := by decide +kernel
theorem dL_owed_24 : decode cL_owed 24 = .ok (.iload_n 2, 1) := by decide +kernel
theorem dL_owed_25 : decode cL_owed 25 = .ok (.bipush 8, 2) := by decide +kernel
theorem dL_owed_27 : decode cL_owed 27 = .ok (.iload_n 3, 1) := by decide +kernel
theorem dL_owed_28 : decode cL_owed 28 = .ok (.imul, 1) := by decide +kernel
theorem dL_owed_29 : decode cL_owed 29 = .ok (.iadd, 1) := by decide +kernel
theorem dL_owed_30 : decode cL_owed 30 = .ok (.bipush 64, 2) := by decide +kernel
theorem dL_owed_32 : decode cL_owed 32 = .ok (.iload 4, 2) := by decide +kernel
theorem dL_owed_34 : decode cL_owed 34 = .ok (.imul, 1) := by decide +kernel
theorem dL_owed_35 : decode cL_owed 35 = .ok (.iadd, 1) := by decide +kernel
theorem dL_owed_36 : decode cL_owed 36 = .ok (.if_icmp .ne 13, 3) := by decide +kernel
theorem dL_owed_39 : decode cL_owed 39 = .ok (.aload_n 0, 1) := by decide +kernel
theorem dL_owed_40 : decode cL_owed 40 = .ok (.iload 6, 2) := by decide +kernel
theorem dL_owed_42 : decode cL_owed 42 = .ok (.iaload, 1) := by decide +kernel
theorem dL_owed_43 : decode cL_owed 43 = .ok (.invokestatic 9, 3) := by decide +kernel
theorem dL_owed_46 : decode cL_owed 46 = .ok (.goto 4, 3) := by decide +kernel
theorem dL_owed_49 : decode cL_owed 49 = .ok (.iconst 0, 1) := by decide +kernel
theorem dL_owed_50 : decode cL_owed 50 = .ok (.iadd, 1) := by decide +kernel
theorem dL_owed_51 : decode cL_owed 51 = .ok (.istore 5, 2) := by decide +kernel
theorem dL_owed_53 : decode cL_owed 53 = .ok (.iinc 6 1, 3) := by decide +kernel
theorem dL_owed_56 : decode cL_owed 56 = .ok (.goto (-50), 3) := by decide +kernel
theorem dL_owed_59 : decode cL_owed 59 = .ok (.iload 5, 2) := by decide +kernel
theorem dL_owed_61 : decode cL_owed 61 = .ok (.ireturn, 1) := by decide +kernel
set_option maxRecDepth 20000 in
theorem ggL_owing_L_debtor : GoodIn wsL_owing wsL_debtor := goodIn_r _ [4] (by decide +kernel) (by decide +kernel)
set_option maxRecDepth 20000 in
theorem gL_owing_L_debtor : GoodIn wsL_owing (va_wsS RL 15 yL_debtor wsL_debtor) := goodIn_app (goodIn_of _ (by decide +kernel)) ggL_owing_L_debtor
set_option maxRecDepth 20000 in
theorem ggL_owing_L_many : GoodIn wsL_owing wsL_many := goodIn_r _ [7] (by decide +kernel) (by decide +kernel)
set_option maxRecDepth 20000 in
theorem gL_owing_L_many : GoodIn wsL_owing (va_wsS RL 9 yL_many wsL_many) := goodIn_app (goodIn_of _ (by decide +kernel)) ggL_owing_L_many
theorem dL_owing_0 : decode cL_owing 0 = .ok (.iconst 0, 1) := by decide +kernel
theorem dL_owing_1 : decode cL_owing 1 = .ok (.istore_n 3, 1) := by decide +kernel
theorem dL_owing_2 : decode cL_owing 2 = .ok (.iconst 0, 1) := by decide +kernel
theorem dL_owing_3 : decode cL_owing 3 = .ok (.istore 4, 2) := by decide +kernel
theorem dL_owing_5 : decode cL_owing 5 = .ok (.iload 4, 2) := by decide +kernel
theorem dL_owing_7 : decode cL_owing 7 = .ok (.aload_n 1, 1) := by decide +kernel
theorem dL_owing_8 : decode cL_owing 8 = .ok (.iconst 2, 1) := by decide +kernel
theorem dL_owing_9 : decode cL_owing 9 = .ok (.iaload, 1) := by decide +kernel
theorem dL_owing_10 : decode cL_owing 10 = .ok (.if_icmp .ge 34, 3) := by decide +kernel
theorem dL_owing_13 : decode cL_owing 13 = .ok (.iload_n 3, 1) := by decide +kernel
theorem dL_owing_14 : decode cL_owing 14 = .ok (.aload_n 0, 1) := by decide +kernel
theorem dL_owing_15 : decode cL_owing 15 = .ok (.iload 4, 2) := by decide +kernel
theorem dL_owing_17 : decode cL_owing 17 = .ok (.iaload, 1) := by decide +kernel
theorem dL_owing_18 : decode cL_owing 18 = .ok (.invokestatic 15, 3) := by decide +kernel
theorem dL_owing_21 : decode cL_owing 21 = .ok (.iload_n 2, 1) := by decide +kernel
theorem dL_owing_22 : decode cL_owing 22 = .ok (.if_icmp .ne 13, 3) := by decide +kernel
theorem dL_owing_25 : decode cL_owing 25 = .ok (.aload_n 0, 1) := by decide +kernel
theorem dL_owing_26 : decode cL_owing 26 = .ok (.iload 4, 2) := by decide +kernel
theorem dL_owing_28 : decode cL_owing 28 = .ok (.iaload, 1) := by decide +kernel
theorem dL_owing_29 : decode cL_owing 29 = .ok (.invokestatic 9, 3) := by decide +kernel
theorem dL_owing_32 : decode cL_owing 32 = .ok (.goto 4, 3) := by decide +kernel
theorem dL_owing_35 : decode cL_owing 35 = .ok (.iconst 0, 1) := by decide +kernel
theorem dL_owing_36 : decode cL_owing 36 = .ok (.iadd, 1) := by decide +kernel
theorem dL_owing_37 : decode cL_owing 37 = .ok (.istore_n 3, 1) := by decide +kernel
theorem dL_owing_38 : decode cL_owing 38 = .ok (.iinc 4 1, 3) := by decide +kernel
theorem dL_owing_41 : decode cL_owing 41 = .ok (.goto (-36), 3) := by decide +kernel
theorem dL_owing_44 : decode cL_owing 44 = .ok (.iload_n 3, 1) := by decide +kernel
theorem dL_owing_45 : decode cL_owing 45 = .ok (.ireturn, 1) := by decide +kernel
set_option maxRecDepth 20000 in
theorem ggL_had_L_creditor : GoodIn wsL_had wsL_creditor := goodIn_r _ [4] (by decide +kernel) (by decide +kernel)
set_option maxRecDepth 20000 in
theorem gL_had_L_creditor : GoodIn wsL_had (va_wsS RL 18 yL_creditor wsL_creditor) := goodIn_app (goodIn_of _ (by decide +kernel)) ggL_had_L_creditor
set_option maxRecDepth 20000 in
theorem ggL_had_L_many : GoodIn wsL_had wsL_many := goodIn_r _ [7] (by decide +kernel) (by decide +kernel)
set_option maxRecDepth 20000 in
theorem gL_had_L_many : GoodIn wsL_had (va_wsS RL 9 yL_many wsL_many) := goodIn_app (goodIn_of _ (by decide +kernel)) ggL_had_L_many
theorem dL_had_0 : decode cL_had 0 = .ok (.iconst 0, 1) := by decide +kernel
theorem dL_had_1 : decode cL_had 1 = .ok (.istore_n 3, 1) := by decide +kernel
theorem dL_had_2 : decode cL_had 2 = .ok (.iconst 0, 1) := by decide +kernel
theorem dL_had_3 : decode cL_had 3 = .ok (.istore 4, 2) := by decide +kernel
theorem dL_had_5 : decode cL_had 5 = .ok (.iload 4, 2) := by decide +kernel
theorem dL_had_7 : decode cL_had 7 = .ok (.aload_n 1, 1) := by decide +kernel
theorem dL_had_8 : decode cL_had 8 = .ok (.iconst 2, 1) := by decide +kernel
theorem dL_had_9 : decode cL_had 9 = .ok (.iaload, 1) := by decide +kernel
theorem dL_had_10 : decode cL_had 10 = .ok (.if_icmp .ge 34, 3) := by decide +kernel
theorem dL_had_13 : decode cL_had 13 = .ok (.iload_n 3, 1) := by decide +kernel
theorem dL_had_14 : decode cL_had 14 = .ok (.aload_n 0, 1) := by decide +kernel
theorem dL_had_15 : decode cL_had 15 = .ok (.iload 4, 2) := by decide +kernel
theorem dL_had_17 : decode cL_had 17 = .ok (.iaload, 1) := by decide +kernel
theorem dL_had_18 : decode cL_had 18 = .ok (.invokestatic 18, 3) := by decide +kernel
theorem dL_had_21 : decode cL_had 21 = .ok (.iload_n 2, 1) := by decide +kernel
theorem dL_had_22 : decode cL_had 22 = .ok (.if_icmp .ne 13, 3) := by decide +kernel
theorem dL_had_25 : decode cL_had 25 = .ok (.aload_n 0, 1) := by decide +kernel
theorem dL_had_26 : decode cL_had 26 = .ok (.iload 4, 2) := by decide +kernel
theorem dL_had_28 : decode cL_had 28 = .ok (.iaload, 1) := by decide +kernel
theorem dL_had_29 : decode cL_had 29 = .ok (.invokestatic 9, 3) := by decide +kernel
theorem dL_had_32 : decode cL_had 32 = .ok (.goto 4, 3) := by decide +kernel
theorem dL_had_35 : decode cL_had 35 = .ok (.iconst 0, 1) := by decide +kernel
theorem dL_had_36 : decode cL_had 36 = .ok (.iadd, 1) := by decide +kernel
theorem dL_had_37 : decode cL_had 37 = .ok (.istore_n 3, 1) := by decide +kernel
theorem dL_had_38 : decode cL_had 38 = .ok (.iinc 4 1, 3) := by decide +kernel
theorem dL_had_41 : decode cL_had 41 = .ok (.goto (-36), 3) := by decide +kernel
theorem dL_had_44 : decode cL_had 44 = .ok (.iload_n 3, 1) := by decide +kernel
theorem dL_had_45 : decode cL_had 45 = .ok (.ireturn, 1) := by decide +kernel
theorem dL_out_0 : decode cL_out 0 = .ok (.aload_n 1, 1) := by decide +kernel
theorem dL_out_1 : decode cL_out 1 = .ok (.iconst 2, 1) := by decide +kernel
theorem dL_out_2 : decode cL_out 2 = .ok (.dup2, 1) := by decide +kernel
theorem dL_out_3 : decode cL_out 3 = .ok (.iaload, 1) := by decide +kernel
theorem dL_out_4 : decode cL_out 4 = .ok (.iconst 1, 1) := by decide +kernel
theorem dL_out_5 : decode cL_out 5 = .ok (.isub, 1) := by decide +kernel
theorem dL_out_6 : decode cL_out 6 = .ok (.iastore, 1) := by decide +kernel
theorem dL_out_7 : decode cL_out 7 = .ok (.iload_n 2, 1) := by decide +kernel
theorem dL_out_8 : decode cL_out 8 = .ok (.istore_n 3, 1) := by decide +kernel
theorem dL_out_9 : decode cL_out 9 = .ok (.iload_n 3, 1) := by decide +kernel
theorem dL_out_10 : decode cL_out 10 = .ok (.aload_n 1, 1) := by decide +kernel
theorem dL_out_11 : decode cL_out 11 = .ok (.iconst 2, 1) := by decide +kernel
theorem dL_out_12 : decode cL_out 12 = .ok (.iaload, 1) := by decide +kernel
theorem dL_out_13 : decode cL_out 13 = .ok (.if_icmp .ge 17, 3) := by decide +kernel
theorem dL_out_16 : decode cL_out 16 = .ok (.aload_n 0, 1) := by decide +kernel
theorem dL_out_17 : decode cL_out 17 = .ok (.iload_n 3, 1) := by decide +kernel
theorem dL_out_18 : decode cL_out 18 = .ok (.aload_n 0, 1) := by decide +kernel
theorem dL_out_19 : decode cL_out 19 = .ok (.iload_n 3, 1) := by decide +kernel
theorem dL_out_20 : decode cL_out 20 = .ok (.iconst 1, 1) := by decide +kernel
theorem dL_out_21 : decode cL_out 21 = .ok (.iadd, 1) := by decide +kernel
theorem dL_out_22 : decode cL_out 22 = .ok (.iaload, 1) := by decide +kernel
theorem dL_out_23 : decode cL_out 23 = .ok (.iastore, 1) := by decide +kernel
theorem dL_out_24 : decode cL_out 24 = .ok (.iinc 3 1, 3) := by decide +kernel
theorem dL_out_27 : decode cL_out 27 = .ok (.goto (-18), 3) := by decide +kernel
theorem dL_out_30 : decode cL_out 30 = .ok (.return_, 1) := by decide +kernel
set_option maxRecDepth 20000 in
theorem ggL_take_L_age : GoodIn wsL_take wsL_age := goodIn_r _ [4] (by decide +kernel) (by decide +kernel)
set_option maxRecDepth 20000 in
theorem gL_take_L_age : GoodIn wsL_take (va_wsS RL 21 yL_age wsL_age) := goodIn_app (goodIn_of _ (by decide +kernel)) ggL_take_L_age
set_option maxRecDepth 20000 in
theorem ggL_take_L_many : GoodIn wsL_take wsL_many := goodIn_r _ [7] (by decide +kernel) (by decide +kernel)
set_option maxRecDepth 20000 in
theorem gL_take_L_many : GoodIn wsL_take (va_wsS RL 9 yL_many wsL_many) := goodIn_app (goodIn_of _ (by decide +kernel)) ggL_take_L_many
set_option maxRecDepth 20000 in
theorem ggL_take_L_out : GoodIn wsL_take wsL_out := goodIn_r _ [10] (by decide +kernel) (by decide +kernel)
set_option maxRecDepth 20000 in
theorem gL_take_L_out : GoodIn wsL_take (va_wsS RL 24 yL_out wsL_out) := goodIn_app (goodIn_of _ (by decide +kernel)) ggL_take_L_out
theorem dL_take_0 : decode cL_take 0 = .ok (.iload 5, 2) := by decide +kernel
theorem dL_take_2 : decode cL_take 2 = .ok (.istore 6, 2) := by decide +kernel
theorem dL_take_4 : decode cL_take 4 = .ok (.iload 6, 2) := by decide +kernel
theorem dL_take_6 : decode cL_take 6 = .ok (.ifCond .le 122, 3) := by decide +kernel
theorem dL_take_9 : decode cL_take 9 = .ok (.iconst (-1), 1) := by decide +kernel
theorem dL_take_10 : decode cL_take 10 = .ok (.istore 7, 2) := by decide +kernel
theorem dL_take_12 : decode cL_take 12 = .ok (.iconst 0, 1) := by decide +kernel
theorem dL_take_13 : decode cL_take 13 = .ok (.istore 8, 2) := by decide +kernel
theorem dL_take_15 : decode cL_take 15 = .ok (.iload 8, 2) := by decide +kernel
theorem dL_take_17 : decode cL_take 17 = .ok (.aload_n 1, 1) := by decide +kernel
theorem dL_take_18 : decode cL_take 18 = .ok (.iconst 2, 1) := by decide +kernel
theorem dL_take_19 : decode cL_take 19 = .ok (.iaload, 1) := by decide +kernel
theorem dL_take_20 : decode cL_take 20 = .ok (.if_icmp .ge 75, 3) := by decide +kernel
theorem dL_take_23 : decode cL_take 23 = .ok (.aload_n 0, 1) := by decide +kernel
theorem dL_take_24 : decode cL_take 24 = .ok (.iload 8, 2) := by decide +kernel
theorem dL_take_26 : decode cL_take 26 = .ok (.iaload, 1) := by decide +kernel
theorem dL_take_27 : decode cL_take 27 = .ok (.sipush 255, 3) := by decide +kernel
theorem dL_take_30 : decode cL_take 30 = .ok (.iand, 1) := by decide +kernel
theorem dL_take_31 : decode cL_take 31 = .ok (.iload_n 2, 1) := by decide +kernel
theorem dL_take_32 : decode cL_take 32 = .ok (.bipush 8, 2) := by decide +kernel
theorem dL_take_34 : decode cL_take 34 = .ok (.iload_n 3, 1) := by decide +kernel
theorem dL_take_35 : decode cL_take 35 = .ok (.imul, 1) := by decide +kernel
theorem dL_take_36 : decode cL_take 36 = .ok (.iadd, 1) := by decide +kernel
theorem dL_take_37 : decode cL_take 37 = .ok (.bipush 64, 2) := by decide +kernel
theorem dL_take_39 : decode cL_take 39 = .ok (.iload 4, 2) := by decide +kernel
theorem dL_take_41 : decode cL_take 41 = .ok (.imul, 1) := by decide +kernel
theorem dL_take_42 : decode cL_take 42 = .ok (.iadd, 1) := by decide +kernel
theorem dL_take_43 : decode cL_take 43 = .ok (.if_icmp .ne 7, 3) := by decide +kernel
theorem dL_take_46 : decode cL_take 46 = .ok (.iconst 1, 1) := by decide +kernel
theorem dL_take_47 : decode cL_take 47 = .ok (.goto 4, 3) := by decide +kernel
theorem dL_take_50 : decode cL_take 50 = .ok (.iconst 0, 1) := by decide +kernel
theorem dL_take_51 : decode cL_take 51 = .ok (.istore 9, 2) := by decide +kernel
theorem dL_take_53 : decode cL_take 53 = .ok (.iload 9, 2) := by decide +kernel
theorem dL_take_55 : decode cL_take 55 = .ok (.ifCond .eq 30, 3) := by decide +kernel
theorem dL_take_58 : decode cL_take 58 = .ok (.iload 7, 2) := by decide +kernel
theorem dL_take_60 : decode cL_take 60 = .ok (.ifCond .lt 20, 3) := by decide +kernel
theorem dL_take_63 : decode cL_take 63 = .ok (.aload_n 0, 1) := by decide +kernel
theorem dL_take_64 : decode cL_take 64 = .ok (.iload 8, 2) := by decide +kernel
theorem dL_take_66 : decode cL_take 66 = .ok (.iaload, 1) := by decide +kernel
theorem dL_take_67 : decode cL_take 67 = .ok (.invokestatic 21, 3) := by decide +kernel
theorem dL_take_70 : decode cL_take 70 = .ok (.aload_n 0, 1) := by decide +kernel
theorem dL_take_71 : decode cL_take 71 = .ok (.iload 7, 2) := by decide +kernel
theorem dL_take_73 : decode cL_take 73 = .ok (.iaload, 1) := by decide +kernel
theorem dL_take_74 : decode cL_take 74 = .ok (.invokestatic 21, 3) := by decide +kernel
theorem dL_take_77 : decode cL_take 77 = .ok (.if_icmp .le 8, 3) := by decide +kernel
theorem dL_take_80 : decode cL_take 80 = .ok (.iload 8, 2) := by decide +kernel
theorem dL_take_82 : decode cL_take 82 = .ok (.goto 5, 3) := by decide +kernel
theorem dL_take_85 : decode cL_take 85 = .ok (.iload 7, 2) := by decide +kernel
theorem dL_take_87 : decode cL_take 87 = .ok (.istore 7, 2) := by decide +kernel
theorem dL_take_89 : decode cL_take 89 = .ok (.iinc 8 1, 3) := by decide +kernel
theorem dL_take_92 : decode cL_take 92 = .ok (.goto (-77), 3) := by decide +kernel
theorem dL_take_95 : decode cL_take 95 = .ok (.aload_n 0, 1) := by decide +kernel
theorem dL_take_96 : decode cL_take 96 = .ok (.iload 7, 2) := by decide +kernel
theorem dL_take_98 : decode cL_take 98 = .ok (.dup2, 1) := by decide +kernel
theorem dL_take_99 : decode cL_take 99 = .ok (.iaload, 1) := by decide +kernel
theorem dL_take_100 : decode cL_take 100 = .ok (.sipush 256, 3) := by decide +kernel
theorem dL_take_103 : decode cL_take 103 = .ok (.isub, 1) := by decide +kernel
theorem dL_take_104 : decode cL_take 104 = .ok (.iastore, 1) := by decide +kernel
theorem dL_take_105 : decode cL_take 105 = .ok (.aload_n 0, 1) := by decide +kernel
theorem dL_take_106 : decode cL_take 106 = .ok (.iload 7, 2) := by decide +kernel
theorem dL_take_108 : decode cL_take 108 = .ok (.iaload, 1) := by decide +kernel
theorem dL_take_109 : decode cL_take 109 = .ok (.invokestatic 9, 3) := by decide +kernel
theorem dL_take_112 : decode cL_take 112 = .ok (.ifCond .ne 10, 3) := by decide +kernel
theorem dL_take_115 : decode cL_take 115 = .ok (.aload_n 0, 1) := by decide +kernel
theorem dL_take_116 : decode cL_take 116 = .ok (.aload_n 1, 1) := by decide +kernel
theorem dL_take_117 : decode cL_take 117 = .ok (.iload 7, 2) := by decide +kernel
theorem dL_take_119 : decode cL_take 119 = .ok (.invokestatic 24, 3) := by decide +kernel
theorem dL_take_122 : decode cL_take 122 = .ok (.iinc 6 (-1), 3) := by decide +kernel
theorem dL_take_125 : decode cL_take 125 = .ok (.goto (-121), 3) := by decide +kernel
theorem dL_take_128 : decode cL_take 128 = .ok (.return_, 1) := by decide +kernel
set_option maxRecDepth 20000 in
theorem ggL_why_L_owing : GoodIn wsL_why wsL_owing := goodIn_r _ [4, 5, 6, 3, 7, 8, 9, 10] (by decide +kernel) (by decide +kernel)
set_option maxRecDepth 20000 in
theorem gL_why_L_owing : GoodIn wsL_why (va_wsS RL 28 yL_owing wsL_owing) := goodIn_app (goodIn_of _ (by decide +kernel)) ggL_why_L_owing
theorem dL_why_0 : decode cL_why 0 = .ok (.aload_n 0, 1) := by decide +kernel
theorem dL_why_1 : decode cL_why 1 = .ok (.aload_n 2, 1) := by decide +kernel
theorem dL_why_2 : decode cL_why 2 = .ok (.iload_n 3, 1) := by decide +kernel
theorem dL_why_3 : decode cL_why 3 = .ok (.invokestatic 28, 3) := by decide +kernel
theorem dL_why_6 : decode cL_why 6 = .ok (.iload 4, 2) := by decide +kernel
theorem dL_why_8 : decode cL_why 8 = .ok (.iadd, 1) := by decide +kernel
theorem dL_why_9 : decode cL_why 9 = .ok (.aload_n 2, 1) := by decide +kernel
theorem dL_why_10 : decode cL_why 10 = .ok (.bipush 14, 2) := by decide +kernel
theorem dL_why_12 : decode cL_why 12 = .ok (.iaload, 1) := by decide +kernel
theorem dL_why_13 : decode cL_why 13 = .ok (.if_icmp .le 7, 3) := by decide +kernel
theorem dL_why_16 : decode cL_why 16 = .ok (.iconst 1, 1) := by decide +kernel
theorem dL_why_17 : decode cL_why 17 = .ok (.goto 34, 3) := by decide +kernel
theorem dL_why_20 : decode cL_why 20 = .ok (.aload_n 1, 1) := by decide +kernel
theorem dL_why_21 : decode cL_why 21 = .ok (.bipush 6, 2) := by decide +kernel
theorem dL_why_23 : decode cL_why 23 = .ok (.iload_n 3, 1) := by decide +kernel
theorem dL_why_24 : decode cL_why 24 = .ok (.imul, 1) := by decide +kernel
theorem dL_why_25 : decode cL_why 25 = .ok (.iconst 1, 1) := by decide +kernel
theorem dL_why_26 : decode cL_why 26 = .ok (.iadd, 1) := by decide +kernel
theorem dL_why_27 : decode cL_why 27 = .ok (.iaload, 1) := by decide +kernel
theorem dL_why_28 : decode cL_why 28 = .ok (.aload_n 2, 1) := by decide +kernel
theorem dL_why_29 : decode cL_why 29 = .ok (.bipush 15, 2) := by decide +kernel
theorem dL_why_31 : decode cL_why 31 = .ok (.iaload, 1) := by decide +kernel
theorem dL_why_32 : decode cL_why 32 = .ok (.if_icmp .lt 18, 3) := by decide +kernel
theorem dL_why_35 : decode cL_why 35 = .ok (.aload_n 1, 1) := by decide +kernel
theorem dL_why_36 : decode cL_why 36 = .ok (.bipush 6, 2) := by decide +kernel
theorem dL_why_38 : decode cL_why 38 = .ok (.iload_n 3, 1) := by decide +kernel
theorem dL_why_39 : decode cL_why 39 = .ok (.imul, 1) := by decide +kernel
theorem dL_why_40 : decode cL_why 40 = .ok (.iconst 2, 1) := by decide +kernel
theorem dL_why_41 : decode cL_why 41 = .ok (.iadd, 1) := by decide +kernel
theorem dL_why_42 : decode cL_why 42 = .ok (.iaload, 1) := by decide +kernel
theorem dL_why_43 : decode cL_why 43 = .ok (.ifCond .ne 7, 3) := by decide +kernel
theorem dL_why_46 : decode cL_why 46 = .ok (.iconst 2, 1) := by decide +kernel
theorem dL_why_47 : decode cL_why 47 = .ok (.goto 4, 3) := by decide +kernel
theorem dL_why_50 : decode cL_why 50 = .ok (.iconst 0, 1) := by decide +kernel
theorem dL_why_51 : decode cL_why 51 = .ok (.ireturn, 1) := by decide +kernel
set_option maxRecDepth 20000 in
theorem ggL_week_L_debtor : GoodIn wsL_week wsL_debtor := goodIn_r _ [5] (by decide +kernel) (by decide +kernel)
set_option maxRecDepth 20000 in
theorem gL_week_L_debtor : GoodIn wsL_week (va_wsS RL 15 yL_debtor wsL_debtor) := goodIn_app (goodIn_of _ (by decide +kernel)) ggL_week_L_debtor
set_option maxRecDepth 20000 in
theorem ggL_week_L_many : GoodIn wsL_week wsL_many := goodIn_r _ [8] (by decide +kernel) (by decide +kernel)
set_option maxRecDepth 20000 in
theorem gL_week_L_many : GoodIn wsL_week (va_wsS RL 9 yL_many wsL_many) := goodIn_app (goodIn_of _ (by decide +kernel)) ggL_week_L_many
set_option maxRecDepth 20000 in
theorem ggL_week_L_age : GoodIn wsL_week wsL_age := goodIn_r _ [11] (by decide +kernel) (by decide +kernel)
set_option maxRecDepth 20000 in
theorem gL_week_L_age : GoodIn wsL_week (va_wsS RL 21 yL_age wsL_age) := goodIn_app (goodIn_of _ (by decide +kernel)) ggL_week_L_age
set_option maxRecDepth 20000 in
theorem ggL_week_L_kind : GoodIn wsL_week wsL_kind := goodIn_r _ [14] (by decide +kernel) (by decide +kernel)
set_option maxRecDepth 20000 in
theorem gL_week_L_kind : GoodIn wsL_week (va_wsS RL 32 yL_kind wsL_kind) := goodIn_app (goodIn_of _ (by decide +kernel)) ggL_week_L_kind
set_option maxRecDepth 20000 in
theorem ggL_week_L_creditor : GoodIn wsL_week wsL_creditor := goodIn_r _ [17] (by decide +kernel) (by decide +kernel)
set_option maxRecDepth 20000 in
theorem gL_week_L_creditor : GoodIn wsL_week (va_wsS RL 18 yL_creditor wsL_creditor) := goodIn_app (goodIn_of _ (by decide +kernel)) ggL_week_L_creditor
set_option maxRecDepth 20000 in
theorem ggL_week_L_out : GoodIn wsL_week wsL_out := goodIn_r _ [20] (by decide +kernel) (by decide +kernel)
set_option maxRecDepth 20000 in
theorem gL_week_L_out : GoodIn wsL_week (va_wsS RL 24 yL_out wsL_out) := goodIn_app (goodIn_of _ (by decide +kernel)) ggL_week_L_out
theorem dL_week_0 : decode cL_week 0 = .ok (.aload_n 2, 1) := by decide +kernel
theorem dL_week_1 : decode cL_week 1 = .ok (.iconst 0, 1) := by decide +kernel
theorem dL_week_2 : decode cL_week 2 = .ok (.dup2, 1) := by decide +kernel
theorem dL_week_3 : decode cL_week 3 = .ok (.iaload, 1) := by decide +kernel
theorem dL_week_4 : decode cL_week 4 = .ok (.iconst 1, 1) := by decide +kernel
theorem dL_week_5 : decode cL_week 5 = .ok (.iadd, 1) := by decide +kernel
theorem dL_week_6 : decode cL_week 6 = .ok (.iastore, 1) := by decide +kernel
theorem dL_week_7 : decode cL_week 7 = .ok (.iconst 0, 1) := by decide +kernel
theorem dL_week_8 : decode cL_week 8 = .ok (.istore_n 3, 1) := by decide +kernel
theorem dL_week_9 : decode cL_week 9 = .ok (.iconst 0, 1) := by decide +kernel
theorem dL_week_10 : decode cL_week 10 = .ok (.istore 4, 2) := by decide +kernel
theorem dL_week_12 : decode cL_week 12 = .ok (.iload 4, 2) := by decide +kernel
theorem dL_week_14 : decode cL_week 14 = .ok (.aload_n 2, 1) := by decide +kernel
theorem dL_week_15 : decode cL_week 15 = .ok (.iconst 2, 1) := by decide +kernel
theorem dL_week_16 : decode cL_week 16 = .ok (.iaload, 1) := by decide +kernel
theorem dL_week_17 : decode cL_week 17 = .ok (.if_icmp .ge 26, 3) := by decide +kernel
theorem dL_week_20 : decode cL_week 20 = .ok (.aload_n 2, 1) := by decide +kernel
theorem dL_week_21 : decode cL_week 21 = .ok (.bipush 9, 2) := by decide +kernel
theorem dL_week_23 : decode cL_week 23 = .ok (.iaload, 1) := by decide +kernel
theorem dL_week_24 : decode cL_week 24 = .ok (.ifCond .ne 19, 3) := by decide +kernel
theorem dL_week_27 : decode cL_week 27 = .ok (.aload_n 0, 1) := by decide +kernel
theorem dL_week_28 : decode cL_week 28 = .ok (.iload 4, 2) := by decide +kernel
theorem dL_week_30 : decode cL_week 30 = .ok (.dup2, 1) := by decide +kernel
theorem dL_week_31 : decode cL_week 31 = .ok (.iaload, 1) := by decide +kernel
theorem dL_week_32 : decode cL_week 32 = .ok (.sipush 4096, 3) := by decide +kernel
theorem dL_week_35 : decode cL_week 35 = .ok (.iadd, 1) := by decide +kernel
theorem dL_week_36 : decode cL_week 36 = .ok (.iastore, 1) := by decide +kernel
theorem dL_week_37 : decode cL_week 37 = .ok (.iinc 4 1, 3) := by decide +kernel
theorem dL_week_40 : decode cL_week 40 = .ok (.goto (-28), 3) := by decide +kernel
theorem dL_week_43 : decode cL_week 43 = .ok (.iconst 0, 1) := by decide +kernel
theorem dL_week_44 : decode cL_week 44 = .ok (.istore 4, 2) := by decide +kernel
theorem dL_week_46 : decode cL_week 46 = .ok (.iload 4, 2) := by decide +kernel
theorem dL_week_48 : decode cL_week 48 = .ok (.aload_n 2, 1) := by decide +kernel
theorem dL_week_49 : decode cL_week 49 = .ok (.iconst 2, 1) := by decide +kernel
theorem dL_week_50 : decode cL_week 50 = .ok (.iaload, 1) := by decide +kernel
theorem dL_week_51 : decode cL_week 51 = .ok (.if_icmp .ge 248, 3) := by decide +kernel
theorem dL_week_54 : decode cL_week 54 = .ok (.aload_n 2, 1) := by decide +kernel
theorem dL_week_55 : decode cL_week 55 = .ok (.bipush 9, 2) := by decide +kernel
theorem dL_week_57 : decode cL_week 57 = .ok (.iaload, 1) := by decide +kernel
theorem dL_week_58 : decode cL_week 58 = .ok (.ifCond .ne 241, 3) := by decide +kernel
theorem dL_week_61 : decode cL_week 61 = .ok (.aload_n 0, 1) := by decide +kernel
theorem dL_week_62 : decode cL_week 62 = .ok (.iload 4, 2) := by decide +kernel
theorem dL_week_64 : decode cL_week 64 = .ok (.iaload, 1) := by decide +kernel
theorem dL_week_65 : decode cL_week 65 = .ok (.istore 5, 2) := by decide +kernel
theorem dL_week_67 : decode cL_week 67 = .ok (.iload 5, 2) := by decide +kernel
theorem dL_week_69 : decode cL_week 69 = .ok (.invokestatic 15, 3) := by decide +kernel
theorem dL_week_72 : decode cL_week 72 = .ok (.istore 6, 2) := by decide +kernel
theorem dL_week_74 : decode cL_week 74 = .ok (.iload 5, 2) := by decide +kernel
theorem dL_week_76 : decode cL_week 76 = .ok (.invokestatic 9, 3) := by decide +kernel
theorem dL_week_79 : decode cL_week 79 = .ok (.istore 7, 2) := by decide +kernel
theorem dL_week_81 : decode cL_week 81 = .ok (.aload_n 1, 1) := by decide +kernel
theorem dL_week_82 : decode cL_week 82 = .ok (.bipush 6, 2) := by decide +kernel
theorem dL_week_84 : decode cL_week 84 = .ok (.iload 6, 2) := by decide +kernel
theorem dL_week_86 : decode cL_week 86 = .ok (.imul, 1) := by decide +kernel
theorem dL_week_87 : decode cL_week 87 = .ok (.iconst 2, 1) := by decide +kernel
theorem dL_week_88 : decode cL_week 88 = .ok (.iadd, 1) := by decide +kernel
theorem dL_week_89 : decode cL_week 89 = .ok (.iaload, 1) := by decide +kernel
theorem dL_week_90 : decode cL_week 90 = .ok (.iconst 1, 1) := by decide +kernel
theorem dL_week_91 : decode cL_week 91 = .ok (.isub, 1) := by decide +kernel
theorem dL_week_92 : decode cL_week 92 = .ok (.istore 8, 2) := by decide +kernel
theorem dL_week_94 : decode cL_week 94 = .ok (.iload 5, 2) := by decide +kernel
theorem dL_week_96 : decode cL_week 96 = .ok (.invokestatic 21, 3) := by decide +kernel
theorem dL_week_99 : decode cL_week 99 = .ok (.aload_n 2, 1) := by decide +kernel
theorem dL_week_100 : decode cL_week 100 = .ok (.bipush 10, 2) := by decide +kernel
theorem dL_week_102 : decode cL_week 102 = .ok (.iload 5, 2) := by decide +kernel
theorem dL_week_104 : decode cL_week 104 = .ok (.invokestatic 32, 3) := by decide +kernel
theorem dL_week_107 : decode cL_week 107 = .ok (.iadd, 1) := by decide +kernel
theorem dL_week_108 : decode cL_week 108 = .ok (.iaload, 1) := by decide +kernel
theorem dL_week_109 : decode cL_week 109 = .ok (.if_icmp .ge 9, 3) := by decide +kernel
theorem dL_week_112 : decode cL_week 112 = .ok (.iinc 4 1, 3) := by decide +kernel
theorem dL_week_115 : decode cL_week 115 = .ok (.goto 181, 3) := by decide +kernel
theorem dL_week_118 : decode cL_week 118 = .ok (.iload 8, 2) := by decide +kernel
theorem dL_week_120 : decode cL_week 120 = .ok (.ifCond .lt 111, 3) := by decide +kernel
theorem dL_week_123 : decode cL_week 123 = .ok (.iload 8, 2) := by decide +kernel
theorem dL_week_125 : decode cL_week 125 = .ok (.iload 5, 2) := by decide +kernel
theorem dL_week_127 : decode cL_week 127 = .ok (.invokestatic 18, 3) := by decide +kernel
theorem dL_week_130 : decode cL_week 130 = .ok (.if_icmp .eq 101, 3) := by decide +kernel
theorem dL_week_133 : decode cL_week 133 = .ok (.iload 5, 2) := by decide +kernel
theorem dL_week_135 : decode cL_week 135 = .ok (.ldc 35, 2) := by decide +kernel
theorem dL_week_137 : decode cL_week 137 = .ok (.if_icmp .ge 94, 3) := by decide +kernel
theorem dL_week_140 : decode cL_week 140 = .ok (.aload_n 0, 1) := by decide +kernel
theorem dL_week_141 : decode cL_week 141 = .ok (.iload 4, 2) := by decide +kernel
theorem dL_week_143 : decode cL_week 143 = .ok (.iload 8, 2) := by decide +kernel
theorem dL_week_145 : decode cL_week 145 = .ok (.bipush 8, 2) := by decide +kernel
theorem dL_week_147 : decode cL_week 147 = .ok (.iload 5, 2) := by decide +kernel
theorem dL_week_149 : decode cL_week 149 = .ok (.invokestatic 18, 3) := by decide +kernel
theorem dL_week_152 : decode cL_week 152 = .ok (.imul, 1) := by decide +kernel
theorem dL_week_153 : decode cL_week 153 = .ok (.iadd, 1) := by decide +kernel
theorem dL_week_154 : decode cL_week 154 = .ok (.bipush 64, 2) := by decide +kernel
theorem dL_week_156 : decode cL_week 156 = .ok (.iload 5, 2) := by decide +kernel
theorem dL_week_158 : decode cL_week 158 = .ok (.invokestatic 32, 3) := by decide +kernel
theorem dL_week_161 : decode cL_week 161 = .ok (.imul, 1) := by decide +kernel
theorem dL_week_162 : decode cL_week 162 = .ok (.iadd, 1) := by decide +kernel
theorem dL_week_163 : decode cL_week 163 = .ok (.sipush 256, 3) := by decide +kernel
theorem dL_week_166 : decode cL_week 166 = .ok (.iload 7, 2) := by decide +kernel
theorem dL_week_168 : decode cL_week 168 = .ok (.imul, 1) := by decide +kernel
theorem dL_week_169 : decode cL_week 169 = .ok (.iadd, 1) := by decide +kernel
theorem dL_week_170 : decode cL_week 170 = .ok (.ldc 35, 2) := by decide +kernel
theorem dL_week_172 : decode cL_week 172 = .ok (.iadd, 1) := by decide +kernel
theorem dL_week_173 : decode cL_week 173 = .ok (.iastore, 1) := by decide +kernel
theorem dL_week_174 : decode cL_week 174 = .ok (.aload_n 1, 1) := by decide +kernel
theorem dL_week_175 : decode cL_week 175 = .ok (.bipush 6, 2) := by decide +kernel
theorem dL_week_177 : decode cL_week 177 = .ok (.iload 8, 2) := by decide +kernel
theorem dL_week_179 : decode cL_week 179 = .ok (.imul, 1) := by decide +kernel
theorem dL_week_180 : decode cL_week 180 = .ok (.iconst 3, 1) := by decide +kernel
theorem dL_week_181 : decode cL_week 181 = .ok (.iadd, 1) := by decide +kernel
theorem dL_week_182 : decode cL_week 182 = .ok (.dup2, 1) := by decide +kernel
theorem dL_week_183 : decode cL_week 183 = .ok (.iaload, 1) := by decide +kernel
theorem dL_week_184 : decode cL_week 184 = .ok (.iload 7, 2) := by decide +kernel
theorem dL_week_186 : decode cL_week 186 = .ok (.iadd, 1) := by decide +kernel
theorem dL_week_187 : decode cL_week 187 = .ok (.iastore, 1) := by decide +kernel
theorem dL_week_188 : decode cL_week 188 = .ok (.aload_n 1, 1) := by decide +kernel
theorem dL_week_189 : decode cL_week 189 = .ok (.bipush 6, 2) := by decide +kernel
theorem dL_week_191 : decode cL_week 191 = .ok (.iload 8, 2) := by decide +kernel
theorem dL_week_193 : decode cL_week 193 = .ok (.imul, 1) := by decide +kernel
theorem dL_week_194 : decode cL_week 194 = .ok (.iconst 5, 1) := by decide +kernel
theorem dL_week_195 : decode cL_week 195 = .ok (.iadd, 1) := by decide +kernel
theorem dL_week_196 : decode cL_week 196 = .ok (.dup2, 1) := by decide +kernel
theorem dL_week_197 : decode cL_week 197 = .ok (.iaload, 1) := by decide +kernel
theorem dL_week_198 : decode cL_week 198 = .ok (.iload 7, 2) := by decide +kernel
theorem dL_week_200 : decode cL_week 200 = .ok (.isub, 1) := by decide +kernel
theorem dL_week_201 : decode cL_week 201 = .ok (.iastore, 1) := by decide +kernel
theorem dL_week_202 : decode cL_week 202 = .ok (.aload_n 1, 1) := by decide +kernel
theorem dL_week_203 : decode cL_week 203 = .ok (.bipush 6, 2) := by decide +kernel
theorem dL_week_205 : decode cL_week 205 = .ok (.iload 6, 2) := by decide +kernel
theorem dL_week_207 : decode cL_week 207 = .ok (.imul, 1) := by decide +kernel
theorem dL_week_208 : decode cL_week 208 = .ok (.iconst 5, 1) := by decide +kernel
theorem dL_week_209 : decode cL_week 209 = .ok (.iadd, 1) := by decide +kernel
theorem dL_week_210 : decode cL_week 210 = .ok (.dup2, 1) := by decide +kernel
theorem dL_week_211 : decode cL_week 211 = .ok (.iaload, 1) := by decide +kernel
theorem dL_week_212 : decode cL_week 212 = .ok (.iload 7, 2) := by decide +kernel
theorem dL_week_214 : decode cL_week 214 = .ok (.iadd, 1) := by decide +kernel
theorem dL_week_215 : decode cL_week 215 = .ok (.iastore, 1) := by decide +kernel
theorem dL_week_216 : decode cL_week 216 = .ok (.aload_n 2, 1) := by decide +kernel
theorem dL_week_217 : decode cL_week 217 = .ok (.bipush 7, 2) := by decide +kernel
theorem dL_week_219 : decode cL_week 219 = .ok (.dup2, 1) := by decide +kernel
theorem dL_week_220 : decode cL_week 220 = .ok (.iaload, 1) := by decide +kernel
theorem dL_week_221 : decode cL_week 221 = .ok (.iload 7, 2) := by decide +kernel
theorem dL_week_223 : decode cL_week 223 = .ok (.iadd, 1) := by decide +kernel
theorem dL_week_224 : decode cL_week 224 = .ok (.iastore, 1) := by decide +kernel
theorem dL_week_225 : decode cL_week 225 = .ok (.iinc 4 1, 3) := by decide +kernel
theorem dL_week_228 : decode cL_week 228 = .ok (.goto 68, 3) := by decide +kernel
theorem dL_week_231 : decode cL_week 231 = .ok (.aload_n 1, 1) := by decide +kernel
theorem dL_week_232 : decode cL_week 232 = .ok (.bipush 6, 2) := by decide +kernel
theorem dL_week_234 : decode cL_week 234 = .ok (.iload 6, 2) := by decide +kernel
theorem dL_week_236 : decode cL_week 236 = .ok (.imul, 1) := by decide +kernel
theorem dL_week_237 : decode cL_week 237 = .ok (.iconst 1, 1) := by decide +kernel
theorem dL_week_238 : decode cL_week 238 = .ok (.iadd, 1) := by decide +kernel
theorem dL_week_239 : decode cL_week 239 = .ok (.dup2, 1) := by decide +kernel
theorem dL_week_240 : decode cL_week 240 = .ok (.iaload, 1) := by decide +kernel
theorem dL_week_241 : decode cL_week 241 = .ok (.iload 7, 2) := by decide +kernel
theorem dL_week_243 : decode cL_week 243 = .ok (.iadd, 1) := by decide +kernel
theorem dL_week_244 : decode cL_week 244 = .ok (.iastore, 1) := by decide +kernel
theorem dL_week_245 : decode cL_week 245 = .ok (.aload_n 1, 1) := by decide +kernel
theorem dL_week_246 : decode cL_week 246 = .ok (.bipush 6, 2) := by decide +kernel
theorem dL_week_248 : decode cL_week 248 = .ok (.iload 6, 2) := by decide +kernel
theorem dL_week_250 : decode cL_week 250 = .ok (.imul, 1) := by decide +kernel
theorem dL_week_251 : decode cL_week 251 = .ok (.iconst 5, 1) := by decide +kernel
theorem dL_week_252 : decode cL_week 252 = .ok (.iadd, 1) := by decide +kernel
theorem dL_week_253 : decode cL_week 253 = .ok (.dup2, 1) := by decide +kernel
theorem dL_week_254 : decode cL_week 254 = .ok (.iaload, 1) := by decide +kernel
theorem dL_week_255 : decode cL_week 255 = .ok (.iload 7, 2) := by decide +kernel
theorem dL_week_257 : decode cL_week 257 = .ok (.iadd, 1) := by decide +kernel
theorem dL_week_258 : decode cL_week 258 = .ok (.iastore, 1) := by decide +kernel
theorem dL_week_259 : decode cL_week 259 = .ok (.aload_n 1, 1) := by decide +kernel
theorem dL_week_260 : decode cL_week 260 = .ok (.bipush 6, 2) := by decide +kernel
theorem dL_week_262 : decode cL_week 262 = .ok (.iload 5, 2) := by decide +kernel
theorem dL_week_264 : decode cL_week 264 = .ok (.invokestatic 18, 3) := by decide +kernel
theorem dL_week_267 : decode cL_week 267 = .ok (.imul, 1) := by decide +kernel
theorem dL_week_268 : decode cL_week 268 = .ok (.iconst 5, 1) := by decide +kernel
theorem dL_week_269 : decode cL_week 269 = .ok (.iadd, 1) := by decide +kernel
theorem dL_week_270 : decode cL_week 270 = .ok (.dup2, 1) := by decide +kernel
theorem dL_week_271 : decode cL_week 271 = .ok (.iaload, 1) := by decide +kernel
theorem dL_week_272 : decode cL_week 272 = .ok (.iload 7, 2) := by decide +kernel
theorem dL_week_274 : decode cL_week 274 = .ok (.isub, 1) := by decide +kernel
theorem dL_week_275 : decode cL_week 275 = .ok (.iastore, 1) := by decide +kernel
theorem dL_week_276 : decode cL_week 276 = .ok (.aload_n 2, 1) := by decide +kernel
theorem dL_week_277 : decode cL_week 277 = .ok (.iconst 5, 1) := by decide +kernel
theorem dL_week_278 : decode cL_week 278 = .ok (.dup2, 1) := by decide +kernel
theorem dL_week_279 : decode cL_week 279 = .ok (.iaload, 1) := by decide +kernel
theorem dL_week_280 : decode cL_week 280 = .ok (.iload 7, 2) := by decide +kernel
theorem dL_week_282 : decode cL_week 282 = .ok (.iadd, 1) := by decide +kernel
theorem dL_week_283 : decode cL_week 283 = .ok (.iastore, 1) := by decide +kernel
theorem dL_week_284 : decode cL_week 284 = .ok (.iload_n 3, 1) := by decide +kernel
theorem dL_week_285 : decode cL_week 285 = .ok (.iload 7, 2) := by decide +kernel
theorem dL_week_287 : decode cL_week 287 = .ok (.iadd, 1) := by decide +kernel
theorem dL_week_288 : decode cL_week 288 = .ok (.istore_n 3, 1) := by decide +kernel
theorem dL_week_289 : decode cL_week 289 = .ok (.aload_n 0, 1) := by decide +kernel
theorem dL_week_290 : decode cL_week 290 = .ok (.aload_n 2, 1) := by decide +kernel
theorem dL_week_291 : decode cL_week 291 = .ok (.iload 4, 2) := by decide +kernel
theorem dL_week_293 : decode cL_week 293 = .ok (.invokestatic 24, 3) := by decide +kernel
theorem dL_week_296 : decode cL_week 296 = .ok (.goto (-250), 3) := by decide +kernel
theorem dL_week_299 : decode cL_week 299 = .ok (.iload_n 3, 1) := by decide +kernel
theorem dL_week_300 : decode cL_week 300 = .ok (.ireturn, 1) := by decide +kernel
set_option maxRecDepth 20000 in
theorem ggL_ring_L_debtor : GoodIn wsL_ring wsL_debtor := goodIn_r _ [5] (by decide +kernel) (by decide +kernel)
set_option maxRecDepth 20000 in
theorem gL_ring_L_debtor : GoodIn wsL_ring (va_wsS RL 15 yL_debtor wsL_debtor) := goodIn_app (goodIn_of _ (by decide +kernel)) ggL_ring_L_debtor
set_option maxRecDepth 20000 in
theorem ggL_ring_L_kind : GoodIn wsL_ring wsL_kind := goodIn_r _ [8] (by decide +kernel) (by decide +kernel)
set_option maxRecDepth 20000 in
theorem gL_ring_L_kind : GoodIn wsL_ring (va_wsS RL 32 yL_kind wsL_kind) := goodIn_app (goodIn_of _ (by decide +kernel)) ggL_ring_L_kind
set_option maxRecDepth 20000 in
theorem ggL_ring_L_creditor : GoodIn wsL_ring wsL_creditor := goodIn_r _ [11] (by decide +kernel) (by decide +kernel)
set_option maxRecDepth 20000 in
theorem gL_ring_L_creditor : GoodIn wsL_ring (va_wsS RL 18 yL_creditor wsL_creditor) := goodIn_app (goodIn_of _ (by decide +kernel)) ggL_ring_L_creditor
theorem dL_ring_0 : decode cL_ring 0 = .ok (.bipush 8, 2) := by decide +kernel
theorem dL_ring_2 : decode cL_ring 2 = .ok (.newarray .int, 2) := by decide +kernel
theorem dL_ring_4 : decode cL_ring 4 = .ok (.astore 4, 2) := by decide +kernel
theorem dL_ring_6 : decode cL_ring 6 = .ok (.iconst 0, 1) := by decide +kernel
theorem dL_ring_7 : decode cL_ring 7 = .ok (.istore 5, 2) := by decide +kernel
theorem dL_ring_9 : decode cL_ring 9 = .ok (.iload 5, 2) := by decide +kernel
theorem dL_ring_11 : decode cL_ring 11 = .ok (.aload_n 1, 1) := by decide +kernel
theorem dL_ring_12 : decode cL_ring 12 = .ok (.iconst 2, 1) := by decide +kernel
theorem dL_ring_13 : decode cL_ring 13 = .ok (.iaload, 1) := by decide +kernel
theorem dL_ring_14 : decode cL_ring 14 = .ok (.if_icmp .ge 46, 3) := by decide +kernel
theorem dL_ring_17 : decode cL_ring 17 = .ok (.aload 4, 2) := by decide +kernel
theorem dL_ring_19 : decode cL_ring 19 = .ok (.aload_n 0, 1) := by decide +kernel
theorem dL_ring_20 : decode cL_ring 20 = .ok (.iload 5, 2) := by decide +kernel
theorem dL_ring_22 : decode cL_ring 22 = .ok (.iaload, 1) := by decide +kernel
theorem dL_ring_23 : decode cL_ring 23 = .ok (.invokestatic 15, 3) := by decide +kernel
theorem dL_ring_26 : decode cL_ring 26 = .ok (.dup2, 1) := by decide +kernel
theorem dL_ring_27 : decode cL_ring 27 = .ok (.iaload, 1) := by decide +kernel
theorem dL_ring_28 : decode cL_ring 28 = .ok (.aload_n 0, 1) := by decide +kernel
theorem dL_ring_29 : decode cL_ring 29 = .ok (.iload 5, 2) := by decide +kernel
theorem dL_ring_31 : decode cL_ring 31 = .ok (.iaload, 1) := by decide +kernel
theorem dL_ring_32 : decode cL_ring 32 = .ok (.invokestatic 32, 3) := by decide +kernel
theorem dL_ring_35 : decode cL_ring 35 = .ok (.iload_n 3, 1) := by decide +kernel
theorem dL_ring_36 : decode cL_ring 36 = .ok (.if_icmp .ne 15, 3) := by decide +kernel
theorem dL_ring_39 : decode cL_ring 39 = .ok (.iconst 1, 1) := by decide +kernel
theorem dL_ring_40 : decode cL_ring 40 = .ok (.aload_n 0, 1) := by decide +kernel
theorem dL_ring_41 : decode cL_ring 41 = .ok (.iload 5, 2) := by decide +kernel
theorem dL_ring_43 : decode cL_ring 43 = .ok (.iaload, 1) := by decide +kernel
theorem dL_ring_44 : decode cL_ring 44 = .ok (.invokestatic 18, 3) := by decide +kernel
theorem dL_ring_47 : decode cL_ring 47 = .ok (.ishl, 1) := by decide +kernel
theorem dL_ring_48 : decode cL_ring 48 = .ok (.goto 4, 3) := by decide +kernel
theorem dL_ring_51 : decode cL_ring 51 = .ok (.iconst 0, 1) := by decide +kernel
theorem dL_ring_52 : decode cL_ring 52 = .ok (.ior, 1) := by decide +kernel
theorem dL_ring_53 : decode cL_ring 53 = .ok (.iastore, 1) := by decide +kernel
theorem dL_ring_54 : decode cL_ring 54 = .ok (.iinc 5 1, 3) := by decide +kernel
theorem dL_ring_57 : decode cL_ring 57 = .ok (.goto (-48), 3) := by decide +kernel
theorem dL_ring_60 : decode cL_ring 60 = .ok (.iconst 2, 1) := by decide +kernel
theorem dL_ring_61 : decode cL_ring 61 = .ok (.istore 5, 2) := by decide +kernel
theorem dL_ring_63 : decode cL_ring 63 = .ok (.iload 5, 2) := by decide +kernel
theorem dL_ring_65 : decode cL_ring 65 = .ok (.bipush 9, 2) := by decide +kernel
theorem dL_ring_67 : decode cL_ring 67 = .ok (.if_icmp .ge 176, 3) := by decide +kernel
theorem dL_ring_70 : decode cL_ring 70 = .ok (.iconst 0, 1) := by decide +kernel
theorem dL_ring_71 : decode cL_ring 71 = .ok (.istore 6, 2) := by decide +kernel
theorem dL_ring_73 : decode cL_ring 73 = .ok (.iload 6, 2) := by decide +kernel
theorem dL_ring_75 : decode cL_ring 75 = .ok (.bipush 8, 2) := by decide +kernel
theorem dL_ring_77 : decode cL_ring 77 = .ok (.if_icmp .ge 160, 3) := by decide +kernel
theorem dL_ring_80 : decode cL_ring 80 = .ok (.iconst 1, 1) := by decide +kernel
theorem dL_ring_81 : decode cL_ring 81 = .ok (.istore 7, 2) := by decide +kernel
theorem dL_ring_83 : decode cL_ring 83 = .ok (.aload_n 2, 1) := by decide +kernel
theorem dL_ring_84 : decode cL_ring 84 = .ok (.iconst 0, 1) := by decide +kernel
theorem dL_ring_85 : decode cL_ring 85 = .ok (.iload 6, 2) := by decide +kernel
theorem dL_ring_87 : decode cL_ring 87 = .ok (.iastore, 1) := by decide +kernel
theorem dL_ring_88 : decode cL_ring 88 = .ok (.aload_n 2, 1) := by decide +kernel
theorem dL_ring_89 : decode cL_ring 89 = .ok (.iconst 1, 1) := by decide +kernel
theorem dL_ring_90 : decode cL_ring 90 = .ok (.iload 6, 2) := by decide +kernel
theorem dL_ring_92 : decode cL_ring 92 = .ok (.iastore, 1) := by decide +kernel
theorem dL_ring_93 : decode cL_ring 93 = .ok (.iload 7, 2) := by decide +kernel
theorem dL_ring_95 : decode cL_ring 95 = .ok (.ifCond .le 136, 3) := by decide +kernel
theorem dL_ring_98 : decode cL_ring 98 = .ok (.aload_n 2, 1) := by decide +kernel
theorem dL_ring_99 : decode cL_ring 99 = .ok (.iload 7, 2) := by decide +kernel
theorem dL_ring_101 : decode cL_ring 101 = .ok (.dup2, 1) := by decide +kernel
theorem dL_ring_102 : decode cL_ring 102 = .ok (.iaload, 1) := by decide +kernel
theorem dL_ring_103 : decode cL_ring 103 = .ok (.iconst 1, 1) := by decide +kernel
theorem dL_ring_104 : decode cL_ring 104 = .ok (.iadd, 1) := by decide +kernel
theorem dL_ring_105 : decode cL_ring 105 = .ok (.iastore, 1) := by decide +kernel
theorem dL_ring_106 : decode cL_ring 106 = .ok (.iconst 1, 1) := by decide +kernel
theorem dL_ring_107 : decode cL_ring 107 = .ok (.istore 8, 2) := by decide +kernel
theorem dL_ring_109 : decode cL_ring 109 = .ok (.iconst 0, 1) := by decide +kernel
theorem dL_ring_110 : decode cL_ring 110 = .ok (.istore 9, 2) := by decide +kernel
theorem dL_ring_112 : decode cL_ring 112 = .ok (.iload 9, 2) := by decide +kernel
theorem dL_ring_114 : decode cL_ring 114 = .ok (.iload 7, 2) := by decide +kernel
theorem dL_ring_116 : decode cL_ring 116 = .ok (.if_icmp .ge 32, 3) := by decide +kernel
theorem dL_ring_119 : decode cL_ring 119 = .ok (.iload 8, 2) := by decide +kernel
theorem dL_ring_121 : decode cL_ring 121 = .ok (.ifCond .eq 18, 3) := by decide +kernel
theorem dL_ring_124 : decode cL_ring 124 = .ok (.aload_n 2, 1) := by decide +kernel
theorem dL_ring_125 : decode cL_ring 125 = .ok (.iload 9, 2) := by decide +kernel
theorem dL_ring_127 : decode cL_ring 127 = .ok (.iaload, 1) := by decide +kernel
theorem dL_ring_128 : decode cL_ring 128 = .ok (.aload_n 2, 1) := by decide +kernel
theorem dL_ring_129 : decode cL_ring 129 = .ok (.iload 7, 2) := by decide +kernel
theorem dL_ring_131 : decode cL_ring 131 = .ok (.iaload, 1) := by decide +kernel
theorem dL_ring_132 : decode cL_ring 132 = .ok (.if_icmp .eq 7, 3) := by decide +kernel
theorem dL_ring_135 : decode cL_ring 135 = .ok (.iconst 1, 1) := by decide +kernel
theorem dL_ring_136 : decode cL_ring 136 = .ok (.goto 4, 3) := by decide +kernel
theorem dL_ring_139 : decode cL_ring 139 = .ok (.iconst 0, 1) := by decide +kernel
theorem dL_ring_140 : decode cL_ring 140 = .ok (.istore 8, 2) := by decide +kernel
theorem dL_ring_142 : decode cL_ring 142 = .ok (.iinc 9 1, 3) := by decide +kernel
theorem dL_ring_145 : decode cL_ring 145 = .ok (.goto (-33), 3) := by decide +kernel
theorem dL_ring_148 : decode cL_ring 148 = .ok (.aload_n 2, 1) := by decide +kernel
theorem dL_ring_149 : decode cL_ring 149 = .ok (.iload 7, 2) := by decide +kernel
theorem dL_ring_151 : decode cL_ring 151 = .ok (.iaload, 1) := by decide +kernel
theorem dL_ring_152 : decode cL_ring 152 = .ok (.bipush 7, 2) := by decide +kernel
theorem dL_ring_154 : decode cL_ring 154 = .ok (.if_icmp .le 9, 3) := by decide +kernel
theorem dL_ring_157 : decode cL_ring 157 = .ok (.iinc 7 (-1), 3) := by decide +kernel
theorem dL_ring_160 : decode cL_ring 160 = .ok (.goto 68, 3) := by decide +kernel
theorem dL_ring_163 : decode cL_ring 163 = .ok (.iload 8, 2) := by decide +kernel
theorem dL_ring_165 : decode cL_ring 165 = .ok (.ifCond .eq 63, 3) := by decide +kernel
theorem dL_ring_168 : decode cL_ring 168 = .ok (.aload 4, 2) := by decide +kernel
theorem dL_ring_170 : decode cL_ring 170 = .ok (.aload_n 2, 1) := by decide +kernel
theorem dL_ring_171 : decode cL_ring 171 = .ok (.iload 7, 2) := by decide +kernel
theorem dL_ring_173 : decode cL_ring 173 = .ok (.iconst 1, 1) := by decide +kernel
theorem dL_ring_174 : decode cL_ring 174 = .ok (.isub, 1) := by decide +kernel
theorem dL_ring_175 : decode cL_ring 175 = .ok (.iaload, 1) := by decide +kernel
theorem dL_ring_176 : decode cL_ring 176 = .ok (.iaload, 1) := by decide +kernel
theorem dL_ring_177 : decode cL_ring 177 = .ok (.aload_n 2, 1) := by decide +kernel
theorem dL_ring_178 : decode cL_ring 178 = .ok (.iload 7, 2) := by decide +kernel
theorem dL_ring_180 : decode cL_ring 180 = .ok (.iaload, 1) := by decide +kernel
theorem dL_ring_181 : decode cL_ring 181 = .ok (.ishr, 1) := by decide +kernel
theorem dL_ring_182 : decode cL_ring 182 = .ok (.iconst 1, 1) := by decide +kernel
theorem dL_ring_183 : decode cL_ring 183 = .ok (.iand, 1) := by decide +kernel
theorem dL_ring_184 : decode cL_ring 184 = .ok (.iconst 1, 1) := by decide +kernel
theorem dL_ring_185 : decode cL_ring 185 = .ok (.if_icmp .ne 43, 3) := by decide +kernel
theorem dL_ring_188 : decode cL_ring 188 = .ok (.iload 7, 2) := by decide +kernel
theorem dL_ring_190 : decode cL_ring 190 = .ok (.iload 5, 2) := by decide +kernel
theorem dL_ring_192 : decode cL_ring 192 = .ok (.iconst 1, 1) := by decide +kernel
theorem dL_ring_193 : decode cL_ring 193 = .ok (.isub, 1) := by decide +kernel
theorem dL_ring_194 : decode cL_ring 194 = .ok (.if_icmp .ge 15, 3) := by decide +kernel
theorem dL_ring_197 : decode cL_ring 197 = .ok (.iinc 7 1, 3) := by decide +kernel
theorem dL_ring_200 : decode cL_ring 200 = .ok (.aload_n 2, 1) := by decide +kernel
theorem dL_ring_201 : decode cL_ring 201 = .ok (.iload 7, 2) := by decide +kernel
theorem dL_ring_203 : decode cL_ring 203 = .ok (.iload 6, 2) := by decide +kernel
theorem dL_ring_205 : decode cL_ring 205 = .ok (.iastore, 1) := by decide +kernel
theorem dL_ring_206 : decode cL_ring 206 = .ok (.goto 22, 3) := by decide +kernel
theorem dL_ring_209 : decode cL_ring 209 = .ok (.aload 4, 2) := by decide +kernel
theorem dL_ring_211 : decode cL_ring 211 = .ok (.aload_n 2, 1) := by decide +kernel
theorem dL_ring_212 : decode cL_ring 212 = .ok (.iload 7, 2) := by decide +kernel
theorem dL_ring_214 : decode cL_ring 214 = .ok (.iaload, 1) := by decide +kernel
theorem dL_ring_215 : decode cL_ring 215 = .ok (.iaload, 1) := by decide +kernel
theorem dL_ring_216 : decode cL_ring 216 = .ok (.iload 6, 2) := by decide +kernel
theorem dL_ring_218 : decode cL_ring 218 = .ok (.ishr, 1) := by decide +kernel
theorem dL_ring_219 : decode cL_ring 219 = .ok (.iconst 1, 1) := by decide +kernel
theorem dL_ring_220 : decode cL_ring 220 = .ok (.iand, 1) := by decide +kernel
theorem dL_ring_221 : decode cL_ring 221 = .ok (.iconst 1, 1) := by decide +kernel
theorem dL_ring_222 : decode cL_ring 222 = .ok (.if_icmp .ne 6, 3) := by decide +kernel
theorem dL_ring_225 : decode cL_ring 225 = .ok (.iload 5, 2) := by decide +kernel
theorem dL_ring_227 : decode cL_ring 227 = .ok (.ireturn, 1) := by decide +kernel
theorem dL_ring_228 : decode cL_ring 228 = .ok (.goto (-135), 3) := by decide +kernel
theorem dL_ring_231 : decode cL_ring 231 = .ok (.iinc 6 1, 3) := by decide +kernel
theorem dL_ring_234 : decode cL_ring 234 = .ok (.goto (-161), 3) := by decide +kernel
theorem dL_ring_237 : decode cL_ring 237 = .ok (.iinc 5 1, 3) := by decide +kernel
theorem dL_ring_240 : decode cL_ring 240 = .ok (.goto (-177), 3) := by decide +kernel
theorem dL_ring_243 : decode cL_ring 243 = .ok (.iconst 0, 1) := by decide +kernel
theorem dL_ring_244 : decode cL_ring 244 = .ok (.ireturn, 1) := by decide +kernel
set_option maxRecDepth 20000 in
theorem ggL_amount_L_owed : GoodIn wsL_amount wsL_owed := goodIn_r _ [4, 5, 6, 3, 7] (by decide +kernel) (by decide +kernel)
set_option maxRecDepth 20000 in
theorem gL_amount_L_owed : GoodIn wsL_amount (va_wsS RL 36 yL_owed wsL_owed) := goodIn_app (goodIn_of _ (by decide +kernel)) ggL_amount_L_owed
theorem dL_amount_0 : decode cL_amount 0 = .ok (.sipush 9999, 3) := by decide +kernel
theorem dL_amount_3 : decode cL_amount 3 = .ok (.istore 5, 2) := by decide +kernel
theorem dL_amount_5 : decode cL_amount 5 = .ok (.iconst 0, 1) := by decide +kernel
theorem dL_amount_6 : decode cL_amount 6 = .ok (.istore 6, 2) := by decide +kernel
theorem dL_amount_8 : decode cL_amount 8 = .ok (.iload 6, 2) := by decide +kernel
theorem dL_amount_10 : decode cL_amount 10 = .ok (.iload_n 3, 1) := by decide +kernel
theorem dL_amount_11 : decode cL_amount 11 = .ok (.if_icmp .ge 56, 3) := by decide +kernel
theorem dL_amount_14 : decode cL_amount 14 = .ok (.aload_n 0, 1) := by decide +kernel
theorem dL_amount_15 : decode cL_amount 15 = .ok (.aload_n 1, 1) := by decide +kernel
theorem dL_amount_16 : decode cL_amount 16 = .ok (.aload_n 2, 1) := by decide +kernel
theorem dL_amount_17 : decode cL_amount 17 = .ok (.iload 6, 2) := by decide +kernel
theorem dL_amount_19 : decode cL_amount 19 = .ok (.iaload, 1) := by decide +kernel
theorem dL_amount_20 : decode cL_amount 20 = .ok (.aload_n 2, 1) := by decide +kernel
theorem dL_amount_21 : decode cL_amount 21 = .ok (.iload 6, 2) := by decide +kernel
theorem dL_amount_23 : decode cL_amount 23 = .ok (.iconst 1, 1) := by decide +kernel
theorem dL_amount_24 : decode cL_amount 24 = .ok (.iadd, 1) := by decide +kernel
theorem dL_amount_25 : decode cL_amount 25 = .ok (.iload_n 3, 1) := by decide +kernel
theorem dL_amount_26 : decode cL_amount 26 = .ok (.if_icmp .ge 10, 3) := by decide +kernel
theorem dL_amount_29 : decode cL_amount 29 = .ok (.iload 6, 2) := by decide +kernel
theorem dL_amount_31 : decode cL_amount 31 = .ok (.iconst 1, 1) := by decide +kernel
theorem dL_amount_32 : decode cL_amount 32 = .ok (.iadd, 1) := by decide +kernel
theorem dL_amount_33 : decode cL_amount 33 = .ok (.goto 4, 3) := by decide +kernel
theorem dL_amount_36 : decode cL_amount 36 = .ok (.iconst 0, 1) := by decide +kernel
theorem dL_amount_37 : decode cL_amount 37 = .ok (.iaload, 1) := by decide +kernel
theorem dL_amount_38 : decode cL_amount 38 = .ok (.iload 4, 2) := by decide +kernel
theorem dL_amount_40 : decode cL_amount 40 = .ok (.invokestatic 36, 3) := by decide +kernel
theorem dL_amount_43 : decode cL_amount 43 = .ok (.istore 7, 2) := by decide +kernel
theorem dL_amount_45 : decode cL_amount 45 = .ok (.iload 7, 2) := by decide +kernel
theorem dL_amount_47 : decode cL_amount 47 = .ok (.iload 5, 2) := by decide +kernel
theorem dL_amount_49 : decode cL_amount 49 = .ok (.if_icmp .ge 8, 3) := by decide +kernel
theorem dL_amount_52 : decode cL_amount 52 = .ok (.iload 7, 2) := by decide +kernel
theorem dL_amount_54 : decode cL_amount 54 = .ok (.goto 5, 3) := by decide +kernel
theorem dL_amount_57 : decode cL_amount 57 = .ok (.iload 5, 2) := by decide +kernel
theorem dL_amount_59 : decode cL_amount 59 = .ok (.istore 5, 2) := by decide +kernel
theorem dL_amount_61 : decode cL_amount 61 = .ok (.iinc 6 1, 3) := by decide +kernel
theorem dL_amount_64 : decode cL_amount 64 = .ok (.goto (-56), 3) := by decide +kernel
theorem dL_amount_67 : decode cL_amount 67 = .ok (.iload 5, 2) := by decide +kernel
theorem dL_amount_69 : decode cL_amount 69 = .ok (.ireturn, 1) := by decide +kernel
set_option maxRecDepth 20000 in
theorem ggL_clear_L_ring : GoodIn wsL_clear wsL_ring := goodIn_r _ [4, 5, 6, 7, 3, 8, 9, 10, 11, 12, 13, 14] (by decide +kernel) (by decide +kernel)
set_option maxRecDepth 20000 in
theorem gL_clear_L_ring : GoodIn wsL_clear (va_wsS RL 40 yL_ring wsL_ring) := goodIn_app (goodIn_of _ (by decide +kernel)) ggL_clear_L_ring
set_option maxRecDepth 20000 in
theorem ggL_clear_L_amount : GoodIn wsL_clear wsL_amount := goodIn_r _ [17, 18, 19, 3, 20, 21, 22, 23] (by decide +kernel) (by decide +kernel)
set_option maxRecDepth 20000 in
theorem gL_clear_L_amount : GoodIn wsL_clear (va_wsS RL 44 yL_amount wsL_amount) := goodIn_app (goodIn_of _ (by decide +kernel)) ggL_clear_L_amount
set_option maxRecDepth 20000 in
theorem ggL_clear_L_take : GoodIn wsL_clear wsL_take := goodIn_r _ [26, 27, 28, 3, 29, 21, 22, 23, 30, 31, 32] (by decide +kernel) (by decide +kernel)
set_option maxRecDepth 20000 in
theorem gL_clear_L_take : GoodIn wsL_clear (va_wsS RL 48 yL_take wsL_take) := goodIn_app (goodIn_of _ (by decide +kernel)) ggL_clear_L_take
theorem dL_clear_0 : decode cL_clear 0 = .ok (.iconst 0, 1) := by decide +kernel
theorem dL_clear_1 : decode cL_clear 1 = .ok (.istore 5, 2) := by decide +kernel
theorem dL_clear_3 : decode cL_clear 3 = .ok (.aload_n 0, 1) := by decide +kernel
theorem dL_clear_4 : decode cL_clear 4 = .ok (.aload_n 2, 1) := by decide +kernel
theorem dL_clear_5 : decode cL_clear 5 = .ok (.aload_n 3, 1) := by decide +kernel
theorem dL_clear_6 : decode cL_clear 6 = .ok (.iload 4, 2) := by decide +kernel
theorem dL_clear_8 : decode cL_clear 8 = .ok (.invokestatic 40, 3) := by decide +kernel
theorem dL_clear_11 : decode cL_clear 11 = .ok (.istore 6, 2) := by decide +kernel
theorem dL_clear_13 : decode cL_clear 13 = .ok (.iload 6, 2) := by decide +kernel
theorem dL_clear_15 : decode cL_clear 15 = .ok (.ifCond .le 110, 3) := by decide +kernel
theorem dL_clear_18 : decode cL_clear 18 = .ok (.aload_n 0, 1) := by decide +kernel
theorem dL_clear_19 : decode cL_clear 19 = .ok (.aload_n 2, 1) := by decide +kernel
theorem dL_clear_20 : decode cL_clear 20 = .ok (.aload_n 3, 1) := by decide +kernel
theorem dL_clear_21 : decode cL_clear 21 = .ok (.iload 6, 2) := by decide +kernel
theorem dL_clear_23 : decode cL_clear 23 = .ok (.iload 4, 2) := by decide +kernel
theorem dL_clear_25 : decode cL_clear 25 = .ok (.invokestatic 44, 3) := by decide +kernel
theorem dL_clear_28 : decode cL_clear 28 = .ok (.istore 7, 2) := by decide +kernel
theorem dL_clear_30 : decode cL_clear 30 = .ok (.iconst 0, 1) := by decide +kernel
theorem dL_clear_31 : decode cL_clear 31 = .ok (.istore 8, 2) := by decide +kernel
theorem dL_clear_33 : decode cL_clear 33 = .ok (.iload 8, 2) := by decide +kernel
theorem dL_clear_35 : decode cL_clear 35 = .ok (.iload 6, 2) := by decide +kernel
theorem dL_clear_37 : decode cL_clear 37 = .ok (.if_icmp .ge 57, 3) := by decide +kernel
theorem dL_clear_40 : decode cL_clear 40 = .ok (.aload_n 0, 1) := by decide +kernel
theorem dL_clear_41 : decode cL_clear 41 = .ok (.aload_n 2, 1) := by decide +kernel
theorem dL_clear_42 : decode cL_clear 42 = .ok (.aload_n 3, 1) := by decide +kernel
theorem dL_clear_43 : decode cL_clear 43 = .ok (.iload 8, 2) := by decide +kernel
theorem dL_clear_45 : decode cL_clear 45 = .ok (.iaload, 1) := by decide +kernel
theorem dL_clear_46 : decode cL_clear 46 = .ok (.aload_n 3, 1) := by decide +kernel
theorem dL_clear_47 : decode cL_clear 47 = .ok (.iload 8, 2) := by decide +kernel
theorem dL_clear_49 : decode cL_clear 49 = .ok (.iconst 1, 1) := by decide +kernel
theorem dL_clear_50 : decode cL_clear 50 = .ok (.iadd, 1) := by decide +kernel
theorem dL_clear_51 : decode cL_clear 51 = .ok (.iload 6, 2) := by decide +kernel
theorem dL_clear_53 : decode cL_clear 53 = .ok (.if_icmp .ge 10, 3) := by decide +kernel
theorem dL_clear_56 : decode cL_clear 56 = .ok (.iload 8, 2) := by decide +kernel
theorem dL_clear_58 : decode cL_clear 58 = .ok (.iconst 1, 1) := by decide +kernel
theorem dL_clear_59 : decode cL_clear 59 = .ok (.iadd, 1) := by decide +kernel
theorem dL_clear_60 : decode cL_clear 60 = .ok (.goto 4, 3) := by decide +kernel
theorem dL_clear_63 : decode cL_clear 63 = .ok (.iconst 0, 1) := by decide +kernel
theorem dL_clear_64 : decode cL_clear 64 = .ok (.iaload, 1) := by decide +kernel
theorem dL_clear_65 : decode cL_clear 65 = .ok (.iload 4, 2) := by decide +kernel
theorem dL_clear_67 : decode cL_clear 67 = .ok (.iload 7, 2) := by decide +kernel
theorem dL_clear_69 : decode cL_clear 69 = .ok (.invokestatic 48, 3) := by decide +kernel
theorem dL_clear_72 : decode cL_clear 72 = .ok (.aload_n 1, 1) := by decide +kernel
theorem dL_clear_73 : decode cL_clear 73 = .ok (.bipush 6, 2) := by decide +kernel
theorem dL_clear_75 : decode cL_clear 75 = .ok (.aload_n 3, 1) := by decide +kernel
theorem dL_clear_76 : decode cL_clear 76 = .ok (.iload 8, 2) := by decide +kernel
theorem dL_clear_78 : decode cL_clear 78 = .ok (.iaload, 1) := by decide +kernel
theorem dL_clear_79 : decode cL_clear 79 = .ok (.imul, 1) := by decide +kernel
theorem dL_clear_80 : decode cL_clear 80 = .ok (.iconst 4, 1) := by decide +kernel
theorem dL_clear_81 : decode cL_clear 81 = .ok (.iadd, 1) := by decide +kernel
theorem dL_clear_82 : decode cL_clear 82 = .ok (.dup2, 1) := by decide +kernel
theorem dL_clear_83 : decode cL_clear 83 = .ok (.iaload, 1) := by decide +kernel
theorem dL_clear_84 : decode cL_clear 84 = .ok (.iload 7, 2) := by decide +kernel
theorem dL_clear_86 : decode cL_clear 86 = .ok (.iadd, 1) := by decide +kernel
theorem dL_clear_87 : decode cL_clear 87 = .ok (.iastore, 1) := by decide +kernel
theorem dL_clear_88 : decode cL_clear 88 = .ok (.iinc 8 1, 3) := by decide +kernel
theorem dL_clear_91 : decode cL_clear 91 = .ok (.goto (-58), 3) := by decide +kernel
theorem dL_clear_94 : decode cL_clear 94 = .ok (.iload 5, 2) := by decide +kernel
theorem dL_clear_96 : decode cL_clear 96 = .ok (.iload 7, 2) := by decide +kernel
theorem dL_clear_98 : decode cL_clear 98 = .ok (.iload 6, 2) := by decide +kernel
theorem dL_clear_100 : decode cL_clear 100 = .ok (.imul, 1) := by decide +kernel
theorem dL_clear_101 : decode cL_clear 101 = .ok (.iadd, 1) := by decide +kernel
theorem dL_clear_102 : decode cL_clear 102 = .ok (.istore 5, 2) := by decide +kernel
theorem dL_clear_104 : decode cL_clear 104 = .ok (.aload_n 2, 1) := by decide +kernel
theorem dL_clear_105 : decode cL_clear 105 = .ok (.bipush 8, 2) := by decide +kernel
theorem dL_clear_107 : decode cL_clear 107 = .ok (.dup2, 1) := by decide +kernel
theorem dL_clear_108 : decode cL_clear 108 = .ok (.iaload, 1) := by decide +kernel
theorem dL_clear_109 : decode cL_clear 109 = .ok (.iconst 1, 1) := by decide +kernel
theorem dL_clear_110 : decode cL_clear 110 = .ok (.iadd, 1) := by decide +kernel
theorem dL_clear_111 : decode cL_clear 111 = .ok (.iastore, 1) := by decide +kernel
theorem dL_clear_112 : decode cL_clear 112 = .ok (.aload_n 0, 1) := by decide +kernel
theorem dL_clear_113 : decode cL_clear 113 = .ok (.aload_n 2, 1) := by decide +kernel
theorem dL_clear_114 : decode cL_clear 114 = .ok (.aload_n 3, 1) := by decide +kernel
theorem dL_clear_115 : decode cL_clear 115 = .ok (.iload 4, 2) := by decide +kernel
theorem dL_clear_117 : decode cL_clear 117 = .ok (.invokestatic 40, 3) := by decide +kernel
theorem dL_clear_120 : decode cL_clear 120 = .ok (.istore 6, 2) := by decide +kernel
theorem dL_clear_122 : decode cL_clear 122 = .ok (.goto (-109), 3) := by decide +kernel
theorem dL_clear_125 : decode cL_clear 125 = .ok (.aload_n 2, 1) := by decide +kernel
theorem dL_clear_126 : decode cL_clear 126 = .ok (.bipush 6, 2) := by decide +kernel
theorem dL_clear_128 : decode cL_clear 128 = .ok (.dup2, 1) := by decide +kernel
theorem dL_clear_129 : decode cL_clear 129 = .ok (.iaload, 1) := by decide +kernel
theorem dL_clear_130 : decode cL_clear 130 = .ok (.iload 5, 2) := by decide +kernel
theorem dL_clear_132 : decode cL_clear 132 = .ok (.iadd, 1) := by decide +kernel
theorem dL_clear_133 : decode cL_clear 133 = .ok (.iastore, 1) := by decide +kernel
theorem dL_clear_134 : decode cL_clear 134 = .ok (.iload 5, 2) := by decide +kernel
theorem dL_clear_136 : decode cL_clear 136 = .ok (.ireturn, 1) := by decide +kernel
set_option maxRecDepth 20000 in
theorem ggL_areLots_X4_lot : GoodIn wsL_areLots wsX4_lot := goodIn_r _ [7, 8, 9, 10, 11, 12, 13, 14, 15, 16, 17, 18, 19, 20, 21, 22, 23, 24, 25, 26, 27, 6, 28, 81, 82, 83, 84, 85, 86, 87, 88, 89, 90, 91, 92, 93, 94, 95, 96, 97, 98] (by decide +kernel) (by decide +kernel)
set_option maxRecDepth 20000 in
theorem gL_areLots_X4_lot : GoodIn wsL_areLots (wsV RL 52 RX4 yX4_lot wsX4_lot) := goodIn_app (goodIn_of _ (by decide +kernel)) ggL_areLots_X4_lot
set_option maxRecDepth 20000 in
theorem ggL_areLots_L_many : GoodIn wsL_areLots wsL_many := goodIn_r _ [32] (by decide +kernel) (by decide +kernel)
set_option maxRecDepth 20000 in
theorem gL_areLots_L_many : GoodIn wsL_areLots (va_wsS RL 9 yL_many wsL_many) := goodIn_app (goodIn_of _ (by decide +kernel)) ggL_areLots_L_many
set_option maxRecDepth 20000 in
theorem ggL_areLots_L_debtor : GoodIn wsL_areLots wsL_debtor := goodIn_r _ [35] (by decide +kernel) (by decide +kernel)
set_option maxRecDepth 20000 in
theorem gL_areLots_L_debtor : GoodIn wsL_areLots (va_wsS RL 15 yL_debtor wsL_debtor) := goodIn_app (goodIn_of _ (by decide +kernel)) ggL_areLots_L_debtor
set_option maxRecDepth 20000 in
theorem ggL_areLots_L_creditor : GoodIn wsL_areLots wsL_creditor := goodIn_r _ [38] (by decide +kernel) (by decide +kernel)
set_option maxRecDepth 20000 in
theorem gL_areLots_L_creditor : GoodIn wsL_areLots (va_wsS RL 18 yL_creditor wsL_creditor) := goodIn_app (goodIn_of _ (by decide +kernel)) ggL_areLots_L_creditor
set_option maxRecDepth 20000 in
theorem ggL_areLots_L_kind : GoodIn wsL_areLots wsL_kind := goodIn_r _ [41] (by decide +kernel) (by decide +kernel)
set_option maxRecDepth 20000 in
theorem gL_areLots_L_kind : GoodIn wsL_areLots (va_wsS RL 32 yL_kind wsL_kind) := goodIn_app (goodIn_of _ (by decide +kernel)) ggL_areLots_L_kind
set_option maxRecDepth 20000 in
theorem ggL_areLots_L_age : GoodIn wsL_areLots wsL_age := goodIn_r _ [44] (by decide +kernel) (by decide +kernel)
set_option maxRecDepth 20000 in
theorem gL_areLots_L_age : GoodIn wsL_areLots (va_wsS RL 21 yL_age wsL_age) := goodIn_app (goodIn_of _ (by decide +kernel)) ggL_areLots_L_age
set_option maxRecDepth 20000 in
theorem ggL_areLots_X4_count : GoodIn wsL_areLots wsX4_count := goodIn_r _ [48, 8, 9, 49, 50, 51, 52, 53, 14, 54, 24, 55, 12, 13, 15, 16, 56, 57, 58, 59, 21, 22, 23, 27, 6, 28, 60, 61, 62, 63, 64, 65, 66, 67, 68, 69, 70, 71, 72, 73, 74, 75, 76, 77, 78, 79, 80, 11, 81, 82, 83, 84, 85, 86, 87, 88, 89, 90, 91, 92, 93, 94, 95, 96, 97, 98, 99, 100, 101, 102, 103, 104, 105, 106, 107, 108] (by decide +kernel) (by decide +kernel)
set_option maxRecDepth 20000 in
theorem gL_areLots_X4_count : GoodIn wsL_areLots (wsV RL 60 RX4 yX4_count wsX4_count) := goodIn_app (goodIn_of _ (by decide +kernel)) ggL_areLots_X4_count
theorem dL_areLots_0 : decode cL_areLots 0 = .ok (.iconst 0, 1) := by decide +kernel
theorem dL_areLots_1 : decode cL_areLots 1 = .ok (.istore_n 3, 1) := by decide +kernel
theorem dL_areLots_2 : decode cL_areLots 2 = .ok (.aload_n 0, 1) := by decide +kernel
theorem dL_areLots_3 : decode cL_areLots 3 = .ok (.iconst (-1), 1) := by decide +kernel
theorem dL_areLots_4 : decode cL_areLots 4 = .ok (.iconst 0, 1) := by decide +kernel
theorem dL_areLots_5 : decode cL_areLots 5 = .ok (.invokevirtual 52, 3) := by decide +kernel
theorem dL_areLots_8 : decode cL_areLots 8 = .ok (.ldc 58, 2) := by decide +kernel
theorem dL_areLots_10 : decode cL_areLots 10 = .ok (.if_icmp .ne 32, 3) := by decide +kernel
theorem dL_areLots_13 : decode cL_areLots 13 = .ok (.aload_n 0, 1) := by decide +kernel
theorem dL_areLots_14 : decode cL_areLots 14 = .ok (.iconst 0, 1) := by decide +kernel
theorem dL_areLots_15 : decode cL_areLots 15 = .ok (.bipush 6, 2) := by decide +kernel
theorem dL_areLots_17 : decode cL_areLots 17 = .ok (.invokevirtual 52, 3) := by decide +kernel
theorem dL_areLots_20 : decode cL_areLots 20 = .ok (.ldc 58, 2) := by decide +kernel
theorem dL_areLots_22 : decode cL_areLots 22 = .ok (.if_icmp .ne 20, 3) := by decide +kernel
theorem dL_areLots_25 : decode cL_areLots 25 = .ok (.aload_n 0, 1) := by decide +kernel
theorem dL_areLots_26 : decode cL_areLots 26 = .ok (.aload_n 2, 1) := by decide +kernel
theorem dL_areLots_27 : decode cL_areLots 27 = .ok (.iconst 2, 1) := by decide +kernel
theorem dL_areLots_28 : decode cL_areLots 28 = .ok (.iaload, 1) := by decide +kernel
theorem dL_areLots_29 : decode cL_areLots 29 = .ok (.iconst 0, 1) := by decide +kernel
theorem dL_areLots_30 : decode cL_areLots 30 = .ok (.invokevirtual 52, 3) := by decide +kernel
theorem dL_areLots_33 : decode cL_areLots 33 = .ok (.ldc 59, 2) := by decide +kernel
theorem dL_areLots_35 : decode cL_areLots 35 = .ok (.if_icmp .ne 7, 3) := by decide +kernel
theorem dL_areLots_38 : decode cL_areLots 38 = .ok (.iconst 1, 1) := by decide +kernel
theorem dL_areLots_39 : decode cL_areLots 39 = .ok (.goto 4, 3) := by decide +kernel
theorem dL_areLots_42 : decode cL_areLots 42 = .ok (.iconst 0, 1) := by decide +kernel
theorem dL_areLots_43 : decode cL_areLots 43 = .ok (.istore 4, 2) := by decide +kernel
theorem dL_areLots_45 : decode cL_areLots 45 = .ok (.iconst 0, 1) := by decide +kernel
theorem dL_areLots_46 : decode cL_areLots 46 = .ok (.istore 5, 2) := by decide +kernel
theorem dL_areLots_48 : decode cL_areLots 48 = .ok (.iload 5, 2) := by decide +kernel
theorem dL_areLots_50 : decode cL_areLots 50 = .ok (.aload_n 2, 1) := by decide +kernel
theorem dL_areLots_51 : decode cL_areLots 51 = .ok (.iconst 2, 1) := by decide +kernel
theorem dL_areLots_52 : decode cL_areLots 52 = .ok (.iaload, 1) := by decide +kernel
theorem dL_areLots_53 : decode cL_areLots 53 = .ok (.if_icmp .ge 133, 3) := by decide +kernel
theorem dL_areLots_56 : decode cL_areLots 56 = .ok (.iload 4, 2) := by decide +kernel
theorem dL_areLots_58 : decode cL_areLots 58 = .ok (.ifCond .eq 128, 3) := by decide +kernel
theorem dL_areLots_61 : decode cL_areLots 61 = .ok (.iload_n 3, 1) := by decide +kernel
theorem dL_areLots_62 : decode cL_areLots 62 = .ok (.aload_n 1, 1) := by decide +kernel
theorem dL_areLots_63 : decode cL_areLots 63 = .ok (.iload 5, 2) := by decide +kernel
theorem dL_areLots_65 : decode cL_areLots 65 = .ok (.iaload, 1) := by decide +kernel
theorem dL_areLots_66 : decode cL_areLots 66 = .ok (.invokestatic 9, 3) := by decide +kernel
theorem dL_areLots_69 : decode cL_areLots 69 = .ok (.iadd, 1) := by decide +kernel
theorem dL_areLots_70 : decode cL_areLots 70 = .ok (.istore_n 3, 1) := by decide +kernel
theorem dL_areLots_71 : decode cL_areLots 71 = .ok (.aload_n 0, 1) := by decide +kernel
theorem dL_areLots_72 : decode cL_areLots 72 = .ok (.iload 5, 2) := by decide +kernel
theorem dL_areLots_74 : decode cL_areLots 74 = .ok (.iconst 0, 1) := by decide +kernel
theorem dL_areLots_75 : decode cL_areLots 75 = .ok (.invokevirtual 52, 3) := by decide +kernel
theorem dL_areLots_78 : decode cL_areLots 78 = .ok (.aload_n 1, 1) := by decide +kernel
theorem dL_areLots_79 : decode cL_areLots 79 = .ok (.iload 5, 2) := by decide +kernel
theorem dL_areLots_81 : decode cL_areLots 81 = .ok (.iaload, 1) := by decide +kernel
theorem dL_areLots_82 : decode cL_areLots 82 = .ok (.invokestatic 15, 3) := by decide +kernel
theorem dL_areLots_85 : decode cL_areLots 85 = .ok (.if_icmp .ne 92, 3) := by decide +kernel
theorem dL_areLots_88 : decode cL_areLots 88 = .ok (.aload_n 0, 1) := by decide +kernel
theorem dL_areLots_89 : decode cL_areLots 89 = .ok (.iload 5, 2) := by decide +kernel
theorem dL_areLots_91 : decode cL_areLots 91 = .ok (.iconst 1, 1) := by decide +kernel
theorem dL_areLots_92 : decode cL_areLots 92 = .ok (.invokevirtual 52, 3) := by decide +kernel
theorem dL_areLots_95 : decode cL_areLots 95 = .ok (.aload_n 1, 1) := by decide +kernel
theorem dL_areLots_96 : decode cL_areLots 96 = .ok (.iload 5, 2) := by decide +kernel
theorem dL_areLots_98 : decode cL_areLots 98 = .ok (.iaload, 1) := by decide +kernel
theorem dL_areLots_99 : decode cL_areLots 99 = .ok (.invokestatic 18, 3) := by decide +kernel
theorem dL_areLots_102 : decode cL_areLots 102 = .ok (.if_icmp .ne 75, 3) := by decide +kernel
theorem dL_areLots_105 : decode cL_areLots 105 = .ok (.aload_n 0, 1) := by decide +kernel
theorem dL_areLots_106 : decode cL_areLots 106 = .ok (.iload 5, 2) := by decide +kernel
theorem dL_areLots_108 : decode cL_areLots 108 = .ok (.iconst 2, 1) := by decide +kernel
theorem dL_areLots_109 : decode cL_areLots 109 = .ok (.invokevirtual 52, 3) := by decide +kernel
theorem dL_areLots_112 : decode cL_areLots 112 = .ok (.aload_n 1, 1) := by decide +kernel
theorem dL_areLots_113 : decode cL_areLots 113 = .ok (.iload 5, 2) := by decide +kernel
theorem dL_areLots_115 : decode cL_areLots 115 = .ok (.iaload, 1) := by decide +kernel
theorem dL_areLots_116 : decode cL_areLots 116 = .ok (.invokestatic 32, 3) := by decide +kernel
theorem dL_areLots_119 : decode cL_areLots 119 = .ok (.if_icmp .ne 58, 3) := by decide +kernel
theorem dL_areLots_122 : decode cL_areLots 122 = .ok (.aload_n 0, 1) := by decide +kernel
theorem dL_areLots_123 : decode cL_areLots 123 = .ok (.iload 5, 2) := by decide +kernel
theorem dL_areLots_125 : decode cL_areLots 125 = .ok (.iconst 3, 1) := by decide +kernel
theorem dL_areLots_126 : decode cL_areLots 126 = .ok (.invokevirtual 52, 3) := by decide +kernel
theorem dL_areLots_129 : decode cL_areLots 129 = .ok (.aload_n 1, 1) := by decide +kernel
theorem dL_areLots_130 : decode cL_areLots 130 = .ok (.iload 5, 2) := by decide +kernel
theorem dL_areLots_132 : decode cL_areLots 132 = .ok (.iaload, 1) := by decide +kernel
theorem dL_areLots_133 : decode cL_areLots 133 = .ok (.invokestatic 9, 3) := by decide +kernel
theorem dL_areLots_136 : decode cL_areLots 136 = .ok (.if_icmp .ne 41, 3) := by decide +kernel
theorem dL_areLots_139 : decode cL_areLots 139 = .ok (.aload_n 0, 1) := by decide +kernel
theorem dL_areLots_140 : decode cL_areLots 140 = .ok (.iload 5, 2) := by decide +kernel
theorem dL_areLots_142 : decode cL_areLots 142 = .ok (.iconst 4, 1) := by decide +kernel
theorem dL_areLots_143 : decode cL_areLots 143 = .ok (.invokevirtual 52, 3) := by decide +kernel
theorem dL_areLots_146 : decode cL_areLots 146 = .ok (.aload_n 1, 1) := by decide +kernel
theorem dL_areLots_147 : decode cL_areLots 147 = .ok (.iload 5, 2) := by decide +kernel
theorem dL_areLots_149 : decode cL_areLots 149 = .ok (.iaload, 1) := by decide +kernel
theorem dL_areLots_150 : decode cL_areLots 150 = .ok (.invokestatic 21, 3) := by decide +kernel
theorem dL_areLots_153 : decode cL_areLots 153 = .ok (.if_icmp .ne 24, 3) := by decide +kernel
theorem dL_areLots_156 : decode cL_areLots 156 = .ok (.aload_n 0, 1) := by decide +kernel
theorem dL_areLots_157 : decode cL_areLots 157 = .ok (.iload 5, 2) := by decide +kernel
theorem dL_areLots_159 : decode cL_areLots 159 = .ok (.iconst 5, 1) := by decide +kernel
theorem dL_areLots_160 : decode cL_areLots 160 = .ok (.invokevirtual 52, 3) := by decide +kernel
theorem dL_areLots_163 : decode cL_areLots 163 = .ok (.aload_n 1, 1) := by decide +kernel
theorem dL_areLots_164 : decode cL_areLots 164 = .ok (.iload 5, 2) := by decide +kernel
theorem dL_areLots_166 : decode cL_areLots 166 = .ok (.iaload, 1) := by decide +kernel
theorem dL_areLots_167 : decode cL_areLots 167 = .ok (.bipush 20, 2) := by decide +kernel
theorem dL_areLots_169 : decode cL_areLots 169 = .ok (.ishr, 1) := by decide +kernel
theorem dL_areLots_170 : decode cL_areLots 170 = .ok (.if_icmp .ne 7, 3) := by decide +kernel
theorem dL_areLots_173 : decode cL_areLots 173 = .ok (.iconst 1, 1) := by decide +kernel
theorem dL_areLots_174 : decode cL_areLots 174 = .ok (.goto 4, 3) := by decide +kernel
theorem dL_areLots_177 : decode cL_areLots 177 = .ok (.iconst 0, 1) := by decide +kernel
theorem dL_areLots_178 : decode cL_areLots 178 = .ok (.istore 4, 2) := by decide +kernel
theorem dL_areLots_180 : decode cL_areLots 180 = .ok (.iinc 5 1, 3) := by decide +kernel
theorem dL_areLots_183 : decode cL_areLots 183 = .ok (.goto (-135), 3) := by decide +kernel
theorem dL_areLots_186 : decode cL_areLots 186 = .ok (.iconst 0, 1) := by decide +kernel
theorem dL_areLots_187 : decode cL_areLots 187 = .ok (.istore 5, 2) := by decide +kernel
theorem dL_areLots_189 : decode cL_areLots 189 = .ok (.iload 5, 2) := by decide +kernel
theorem dL_areLots_191 : decode cL_areLots 191 = .ok (.bipush 6, 2) := by decide +kernel
theorem dL_areLots_193 : decode cL_areLots 193 = .ok (.if_icmp .ge 59, 3) := by decide +kernel
theorem dL_areLots_196 : decode cL_areLots 196 = .ok (.iload 4, 2) := by decide +kernel
theorem dL_areLots_198 : decode cL_areLots 198 = .ok (.ifCond .eq 45, 3) := by decide +kernel
theorem dL_areLots_201 : decode cL_areLots 201 = .ok (.iload 5, 2) := by decide +kernel
theorem dL_areLots_203 : decode cL_areLots 203 = .ok (.iconst 2, 1) := by decide +kernel
theorem dL_areLots_204 : decode cL_areLots 204 = .ok (.if_icmp .gt 16, 3) := by decide +kernel
theorem dL_areLots_207 : decode cL_areLots 207 = .ok (.aload_n 0, 1) := by decide +kernel
theorem dL_areLots_208 : decode cL_areLots 208 = .ok (.iload 5, 2) := by decide +kernel
theorem dL_areLots_210 : decode cL_areLots 210 = .ok (.invokevirtual 60, 3) := by decide +kernel
theorem dL_areLots_213 : decode cL_areLots 213 = .ok (.aload_n 2, 1) := by decide +kernel
theorem dL_areLots_214 : decode cL_areLots 214 = .ok (.iload 5, 2) := by decide +kernel
theorem dL_areLots_216 : decode cL_areLots 216 = .ok (.iaload, 1) := by decide +kernel
theorem dL_areLots_217 : decode cL_areLots 217 = .ok (.if_icmp .ne 26, 3) := by decide +kernel
theorem dL_areLots_220 : decode cL_areLots 220 = .ok (.aload_n 0, 1) := by decide +kernel
theorem dL_areLots_221 : decode cL_areLots 221 = .ok (.bipush 20, 2) := by decide +kernel
theorem dL_areLots_223 : decode cL_areLots 223 = .ok (.iload 5, 2) := by decide +kernel
theorem dL_areLots_225 : decode cL_areLots 225 = .ok (.iadd, 1) := by decide +kernel
theorem dL_areLots_226 : decode cL_areLots 226 = .ok (.invokevirtual 60, 3) := by decide +kernel
theorem dL_areLots_229 : decode cL_areLots 229 = .ok (.aload_n 2, 1) := by decide +kernel
theorem dL_areLots_230 : decode cL_areLots 230 = .ok (.bipush 10, 2) := by decide +kernel
theorem dL_areLots_232 : decode cL_areLots 232 = .ok (.iload 5, 2) := by decide +kernel
theorem dL_areLots_234 : decode cL_areLots 234 = .ok (.iadd, 1) := by decide +kernel
theorem dL_areLots_235 : decode cL_areLots 235 = .ok (.iaload, 1) := by decide +kernel
theorem dL_areLots_236 : decode cL_areLots 236 = .ok (.if_icmp .ne 7, 3) := by decide +kernel
theorem dL_areLots_239 : decode cL_areLots 239 = .ok (.iconst 1, 1) := by decide +kernel
theorem dL_areLots_240 : decode cL_areLots 240 = .ok (.goto 4, 3) := by decide +kernel
theorem dL_areLots_243 : decode cL_areLots 243 = .ok (.iconst 0, 1) := by decide +kernel
theorem dL_areLots_244 : decode cL_areLots 244 = .ok (.istore 4, 2) := by decide +kernel
theorem dL_areLots_246 : decode cL_areLots 246 = .ok (.iinc 5 1, 3) := by decide +kernel
theorem dL_areLots_249 : decode cL_areLots 249 = .ok (.goto (-60), 3) := by decide +kernel
theorem dL_areLots_252 : decode cL_areLots 252 = .ok (.iload 4, 2) := by decide +kernel
theorem dL_areLots_254 : decode cL_areLots 254 = .ok (.ifCond .eq 102, 3) := by decide +kernel
theorem dL_areLots_257 : decode cL_areLots 257 = .ok (.aload_n 0, 1) := by decide +kernel
theorem dL_areLots_258 : decode cL_areLots 258 = .ok (.iconst 3, 1) := by decide +kernel
theorem dL_areLots_259 : decode cL_areLots 259 = .ok (.invokevirtual 60, 3) := by decide +kernel
theorem dL_areLots_262 : decode cL_areLots 262 = .ok (.iload_n 3, 1) := by decide +kernel
theorem dL_areLots_263 : decode cL_areLots 263 = .ok (.if_icmp .ne 93, 3) := by decide +kernel
theorem dL_areLots_266 : decode cL_areLots 266 = .ok (.aload_n 0, 1) := by decide +kernel
theorem dL_areLots_267 : decode cL_areLots 267 = .ok (.iconst 4, 1) := by decide +kernel
theorem dL_areLots_268 : decode cL_areLots 268 = .ok (.invokevirtual 60, 3) := by decide +kernel
theorem dL_areLots_271 : decode cL_areLots 271 = .ok (.aload_n 2, 1) := by decide +kernel
theorem dL_areLots_272 : decode cL_areLots 272 = .ok (.iconst 3, 1) := by decide +kernel
theorem dL_areLots_273 : decode cL_areLots 273 = .ok (.iaload, 1) := by decide +kernel
theorem dL_areLots_274 : decode cL_areLots 274 = .ok (.if_icmp .ne 82, 3) := by decide +kernel
theorem dL_areLots_277 : decode cL_areLots 277 = .ok (.aload_n 0, 1) := by decide +kernel
theorem dL_areLots_278 : decode cL_areLots 278 = .ok (.iconst 5, 1) := by decide +kernel
theorem dL_areLots_279 : decode cL_areLots 279 = .ok (.invokevirtual 60, 3) := by decide +kernel
theorem dL_areLots_282 : decode cL_areLots 282 = .ok (.aload_n 2, 1) := by decide +kernel
theorem dL_areLots_283 : decode cL_areLots 283 = .ok (.iconst 4, 1) := by decide +kernel
theorem dL_areLots_284 : decode cL_areLots 284 = .ok (.iaload, 1) := by decide +kernel
theorem dL_areLots_285 : decode cL_areLots 285 = .ok (.if_icmp .ne 71, 3) := by decide +kernel
theorem dL_areLots_288 : decode cL_areLots 288 = .ok (.aload_n 0, 1) := by decide +kernel
theorem dL_areLots_289 : decode cL_areLots 289 = .ok (.bipush 6, 2) := by decide +kernel
theorem dL_areLots_291 : decode cL_areLots 291 = .ok (.invokevirtual 60, 3) := by decide +kernel
theorem dL_areLots_294 : decode cL_areLots 294 = .ok (.aload_n 2, 1) := by decide +kernel
theorem dL_areLots_295 : decode cL_areLots 295 = .ok (.iconst 5, 1) := by decide +kernel
theorem dL_areLots_296 : decode cL_areLots 296 = .ok (.iaload, 1) := by decide +kernel
theorem dL_areLots_297 : decode cL_areLots 297 = .ok (.if_icmp .ne 59, 3) := by decide +kernel
theorem dL_areLots_300 : decode cL_areLots 300 = .ok (.aload_n 0, 1) := by decide +kernel
theorem dL_areLots_301 : decode cL_areLots 301 = .ok (.bipush 7, 2) := by decide +kernel
theorem dL_areLots_303 : decode cL_areLots 303 = .ok (.invokevirtual 60, 3) := by decide +kernel
theorem dL_areLots_306 : decode cL_areLots 306 = .ok (.aload_n 2, 1) := by decide +kernel
theorem dL_areLots_307 : decode cL_areLots 307 = .ok (.bipush 6, 2) := by decide +kernel
theorem dL_areLots_309 : decode cL_areLots 309 = .ok (.iaload, 1) := by decide +kernel
theorem dL_areLots_310 : decode cL_areLots 310 = .ok (.if_icmp .ne 46, 3) := by decide +kernel
theorem dL_areLots_313 : decode cL_areLots 313 = .ok (.aload_n 0, 1) := by decide +kernel
theorem dL_areLots_314 : decode cL_areLots 314 = .ok (.bipush 8, 2) := by decide +kernel
theorem dL_areLots_316 : decode cL_areLots 316 = .ok (.invokevirtual 60, 3) := by decide +kernel
theorem dL_areLots_319 : decode cL_areLots 319 = .ok (.aload_n 2, 1) := by decide +kernel
theorem dL_areLots_320 : decode cL_areLots 320 = .ok (.bipush 7, 2) := by decide +kernel
theorem dL_areLots_322 : decode cL_areLots 322 = .ok (.iaload, 1) := by decide +kernel
theorem dL_areLots_323 : decode cL_areLots 323 = .ok (.if_icmp .ne 33, 3) := by decide +kernel
theorem dL_areLots_326 : decode cL_areLots 326 = .ok (.aload_n 0, 1) := by decide +kernel
theorem dL_areLots_327 : decode cL_areLots 327 = .ok (.bipush 9, 2) := by decide +kernel
theorem dL_areLots_329 : decode cL_areLots 329 = .ok (.invokevirtual 60, 3) := by decide +kernel
theorem dL_areLots_332 : decode cL_areLots 332 = .ok (.aload_n 2, 1) := by decide +kernel
theorem dL_areLots_333 : decode cL_areLots 333 = .ok (.bipush 8, 2) := by decide +kernel
theorem dL_areLots_335 : decode cL_areLots 335 = .ok (.iaload, 1) := by decide +kernel
theorem dL_areLots_336 : decode cL_areLots 336 = .ok (.if_icmp .ne 20, 3) := by decide +kernel
theorem dL_areLots_339 : decode cL_areLots 339 = .ok (.aload_n 0, 1) := by decide +kernel
theorem dL_areLots_340 : decode cL_areLots 340 = .ok (.bipush 10, 2) := by decide +kernel
theorem dL_areLots_342 : decode cL_areLots 342 = .ok (.invokevirtual 60, 3) := by decide +kernel
theorem dL_areLots_345 : decode cL_areLots 345 = .ok (.aload_n 2, 1) := by decide +kernel
theorem dL_areLots_346 : decode cL_areLots 346 = .ok (.bipush 9, 2) := by decide +kernel
theorem dL_areLots_348 : decode cL_areLots 348 = .ok (.iaload, 1) := by decide +kernel
theorem dL_areLots_349 : decode cL_areLots 349 = .ok (.if_icmp .ne 7, 3) := by decide +kernel
theorem dL_areLots_352 : decode cL_areLots 352 = .ok (.iconst 1, 1) := by decide +kernel
theorem dL_areLots_353 : decode cL_areLots 353 = .ok (.goto 4, 3) := by decide +kernel
theorem dL_areLots_356 : decode cL_areLots 356 = .ok (.iconst 0, 1) := by decide +kernel
theorem dL_areLots_357 : decode cL_areLots 357 = .ok (.ireturn, 1) := by decide +kernel
set_option maxRecDepth 20000 in
theorem ggL_arePupils_X4_pupilOf : GoodIn wsL_arePupils wsX4_pupilOf := goodIn_r _ [7, 8, 9, 10, 11, 12, 13, 14, 15, 16, 17, 18, 19, 20, 21, 22, 23, 24, 25, 26, 27, 28, 29, 30, 31, 32, 33, 34, 35, 36, 37, 38, 39, 40, 41, 42, 6, 43, 44, 45, 46, 47, 48, 49, 50, 51, 52, 142, 143, 144, 145, 146, 147, 148, 149, 150, 151, 152, 153, 154, 155, 156, 157, 158, 159] (by decide +kernel) (by decide +kernel)
set_option maxRecDepth 20000 in
theorem gL_arePupils_X4_pupilOf : GoodIn wsL_arePupils (wsV RL 63 RX4 yX4_pupilOf wsX4_pupilOf) := goodIn_app (goodIn_of _ (by decide +kernel)) ggL_arePupils_X4_pupilOf
set_option maxRecDepth 20000 in
theorem ggL_arePupils_X4_richest : GoodIn wsL_arePupils wsX4_richest := goodIn_r _ [56, 9, 8, 57, 58, 16, 17, 13, 18, 19, 59, 60, 61, 62, 44, 45, 46, 47, 30, 31, 32, 33, 34, 15, 35, 36, 37, 38, 39, 40, 41, 42, 6, 43, 142, 143, 144, 145, 146, 147, 148, 149, 150, 151, 152, 153, 154, 155, 156, 157, 158, 159] (by decide +kernel) (by decide +kernel)
set_option maxRecDepth 20000 in
theorem gL_arePupils_X4_richest : GoodIn wsL_arePupils (wsV RL 66 RX4 yX4_richest wsX4_richest) := goodIn_app (goodIn_of _ (by decide +kernel)) ggL_arePupils_X4_richest
set_option maxRecDepth 20000 in
theorem ggL_arePupils_L_had : GoodIn wsL_arePupils wsL_had := goodIn_r _ [66, 67, 68, 65, 69, 70, 71, 72] (by decide +kernel) (by decide +kernel)
set_option maxRecDepth 20000 in
theorem gL_arePupils_L_had : GoodIn wsL_arePupils (va_wsS RL 69 yL_had wsL_had) := goodIn_app (goodIn_of _ (by decide +kernel)) ggL_arePupils_L_had
set_option maxRecDepth 20000 in
theorem ggL_arePupils_L_owing : GoodIn wsL_arePupils wsL_owing := goodIn_r _ [75, 76, 77, 65, 78, 70, 71, 72] (by decide +kernel) (by decide +kernel)
set_option maxRecDepth 20000 in
theorem gL_arePupils_L_owing : GoodIn wsL_arePupils (va_wsS RL 28 yL_owing wsL_owing) := goodIn_app (goodIn_of _ (by decide +kernel)) ggL_arePupils_L_owing
set_option maxRecDepth 20000 in
theorem ggL_arePupils_L_kind : GoodIn wsL_arePupils wsL_kind := goodIn_r _ [81] (by decide +kernel) (by decide +kernel)
set_option maxRecDepth 20000 in
theorem gL_arePupils_L_kind : GoodIn wsL_arePupils (va_wsS RL 32 yL_kind wsL_kind) := goodIn_app (goodIn_of _ (by decide +kernel)) ggL_arePupils_L_kind
set_option maxRecDepth 20000 in
theorem ggL_arePupils_L_age : GoodIn wsL_arePupils wsL_age := goodIn_r _ [84] (by decide +kernel) (by decide +kernel)
set_option maxRecDepth 20000 in
theorem gL_arePupils_L_age : GoodIn wsL_arePupils (va_wsS RL 21 yL_age wsL_age) := goodIn_app (goodIn_of _ (by decide +kernel)) ggL_arePupils_L_age
set_option maxRecDepth 20000 in
theorem ggL_arePupils_L_debtor : GoodIn wsL_arePupils wsL_debtor := goodIn_r _ [78] (by decide +kernel) (by decide +kernel)
set_option maxRecDepth 20000 in
theorem gL_arePupils_L_debtor : GoodIn wsL_arePupils (va_wsS RL 15 yL_debtor wsL_debtor) := goodIn_app (goodIn_of _ (by decide +kernel)) ggL_arePupils_L_debtor
set_option maxRecDepth 20000 in
theorem ggL_arePupils_X4_spoilsIn : GoodIn wsL_arePupils wsX4_spoilsIn := goodIn_r _ [88, 8, 9, 57, 10, 11, 12, 13, 14, 15, 16, 17, 18, 19, 89, 90, 91, 92, 93, 94, 95, 96, 97, 98, 99, 35, 36, 37, 38, 39, 40, 41, 100, 101, 102, 103, 104, 42, 6, 43, 142, 143, 144, 145, 146, 147, 148, 149, 150, 151, 152, 153, 154, 155, 156, 157, 158, 159] (by decide +kernel) (by decide +kernel)
set_option maxRecDepth 20000 in
theorem gL_arePupils_X4_spoilsIn : GoodIn wsL_arePupils (wsV RL 72 RX4 yX4_spoilsIn wsX4_spoilsIn) := goodIn_app (goodIn_of _ (by decide +kernel)) ggL_arePupils_X4_spoilsIn
set_option maxRecDepth 20000 in
theorem ggL_arePupils_X4_why : GoodIn wsL_arePupils wsX4_why := goodIn_r _ [108, 8, 9, 10, 11, 12, 13, 14, 15, 16, 17, 18, 19, 109, 110, 6, 111, 112, 113, 114, 115, 26, 30, 31, 32, 33, 34, 35, 36, 37, 38, 39, 40, 41, 42, 43, 48, 49, 50, 51, 52, 142, 143, 144, 145, 146, 147, 148, 149, 150, 151, 152, 153, 154, 155, 156, 157, 158, 159] (by decide +kernel) (by decide +kernel)
set_option maxRecDepth 20000 in
theorem gL_arePupils_X4_why : GoodIn wsL_arePupils (wsV RL 75 RX4 yX4_why wsX4_why) := goodIn_app (goodIn_of _ (by decide +kernel)) ggL_arePupils_X4_why
set_option maxRecDepth 20000 in
theorem ggL_arePupils_L_why : GoodIn wsL_arePupils wsL_why := goodIn_r _ [118, 73, 74, 65, 75, 76, 77, 78, 70, 71, 72] (by decide +kernel) (by decide +kernel)
set_option maxRecDepth 20000 in
theorem gL_arePupils_L_why : GoodIn wsL_arePupils (va_wsS RL 78 yL_why wsL_why) := goodIn_app (goodIn_of _ (by decide +kernel)) ggL_arePupils_L_why
set_option maxRecDepth 20000 in
theorem ggL_arePupils_X4_count : GoodIn wsL_arePupils wsX4_count := goodIn_r _ [122, 9, 8, 123, 124, 125, 31, 32, 13, 33, 34, 15, 16, 17, 18, 19, 35, 36, 37, 38, 39, 40, 41, 42, 6, 43, 126, 127, 128, 129, 48, 49, 50, 51, 52, 130, 131, 132, 133, 134, 135, 136, 137, 138, 139, 140, 141, 58, 142, 143, 144, 145, 146, 147, 148, 149, 150, 151, 152, 153, 154, 155, 156, 157, 158, 159, 160, 161, 162, 163, 164, 165, 166, 167, 168, 169] (by decide +kernel) (by decide +kernel)
set_option maxRecDepth 20000 in
theorem gL_arePupils_X4_count : GoodIn wsL_arePupils (wsV RL 60 RX4 yX4_count wsX4_count) := goodIn_app (goodIn_of _ (by decide +kernel)) ggL_arePupils_X4_count
theorem dL_arePupils_0 : decode cL_arePupils 0 = .ok (.iconst 0, 1) := by decide +kernel
theorem dL_arePupils_1 : decode cL_arePupils 1 = .ok (.istore 4, 2) := by decide +kernel
theorem dL_arePupils_3 : decode cL_arePupils 3 = .ok (.aload_n 0, 1) := by decide +kernel
theorem dL_arePupils_4 : decode cL_arePupils 4 = .ok (.aload_n 3, 1) := by decide +kernel
theorem dL_arePupils_5 : decode cL_arePupils 5 = .ok (.iconst 1, 1) := by decide +kernel
theorem dL_arePupils_6 : decode cL_arePupils 6 = .ok (.iaload, 1) := by decide +kernel
theorem dL_arePupils_7 : decode cL_arePupils 7 = .ok (.iconst 0, 1) := by decide +kernel
theorem dL_arePupils_8 : decode cL_arePupils 8 = .ok (.invokevirtual 63, 3) := by decide +kernel
theorem dL_arePupils_11 : decode cL_arePupils 11 = .ok (.ldc 58, 2) := by decide +kernel
theorem dL_arePupils_13 : decode cL_arePupils 13 = .ok (.if_icmp .ne 29, 3) := by decide +kernel
theorem dL_arePupils_16 : decode cL_arePupils 16 = .ok (.aload_n 0, 1) := by decide +kernel
theorem dL_arePupils_17 : decode cL_arePupils 17 = .ok (.aload_n 3, 1) := by decide +kernel
theorem dL_arePupils_18 : decode cL_arePupils 18 = .ok (.iconst 1, 1) := by decide +kernel
theorem dL_arePupils_19 : decode cL_arePupils 19 = .ok (.iaload, 1) := by decide +kernel
theorem dL_arePupils_20 : decode cL_arePupils 20 = .ok (.invokevirtual 66, 3) := by decide +kernel
theorem dL_arePupils_23 : decode cL_arePupils 23 = .ok (.ldc 59, 2) := by decide +kernel
theorem dL_arePupils_25 : decode cL_arePupils 25 = .ok (.if_icmp .ne 17, 3) := by decide +kernel
theorem dL_arePupils_28 : decode cL_arePupils 28 = .ok (.aload_n 0, 1) := by decide +kernel
theorem dL_arePupils_29 : decode cL_arePupils 29 = .ok (.iconst (-1), 1) := by decide +kernel
theorem dL_arePupils_30 : decode cL_arePupils 30 = .ok (.invokevirtual 66, 3) := by decide +kernel
theorem dL_arePupils_33 : decode cL_arePupils 33 = .ok (.ldc 58, 2) := by decide +kernel
theorem dL_arePupils_35 : decode cL_arePupils 35 = .ok (.if_icmp .ne 7, 3) := by decide +kernel
theorem dL_arePupils_38 : decode cL_arePupils 38 = .ok (.iconst 1, 1) := by decide +kernel
theorem dL_arePupils_39 : decode cL_arePupils 39 = .ok (.goto 4, 3) := by decide +kernel
theorem dL_arePupils_42 : decode cL_arePupils 42 = .ok (.iconst 0, 1) := by decide +kernel
theorem dL_arePupils_43 : decode cL_arePupils 43 = .ok (.istore 5, 2) := by decide +kernel
theorem dL_arePupils_45 : decode cL_arePupils 45 = .ok (.iconst 0, 1) := by decide +kernel
theorem dL_arePupils_46 : decode cL_arePupils 46 = .ok (.istore 6, 2) := by decide +kernel
theorem dL_arePupils_48 : decode cL_arePupils 48 = .ok (.iload 6, 2) := by decide +kernel
theorem dL_arePupils_50 : decode cL_arePupils 50 = .ok (.aload_n 3, 1) := by decide +kernel
theorem dL_arePupils_51 : decode cL_arePupils 51 = .ok (.iconst 1, 1) := by decide +kernel
theorem dL_arePupils_52 : decode cL_arePupils 52 = .ok (.iaload, 1) := by decide +kernel
theorem dL_arePupils_53 : decode cL_arePupils 53 = .ok (.if_icmp .ge 463, 3) := by decide +kernel
theorem dL_arePupils_56 : decode cL_arePupils 56 = .ok (.iload 5, 2) := by decide +kernel
theorem dL_arePupils_58 : decode cL_arePupils 58 = .ok (.ifCond .eq 458, 3) := by decide +kernel
theorem dL_arePupils_61 : decode cL_arePupils 61 = .ok (.aload_n 1, 1) := by decide +kernel
theorem dL_arePupils_62 : decode cL_arePupils 62 = .ok (.aload_n 3, 1) := by decide +kernel
theorem dL_arePupils_63 : decode cL_arePupils 63 = .ok (.iload 6, 2) := by decide +kernel
theorem dL_arePupils_65 : decode cL_arePupils 65 = .ok (.invokestatic 69, 3) := by decide +kernel
theorem dL_arePupils_68 : decode cL_arePupils 68 = .ok (.aload_n 1, 1) := by decide +kernel
theorem dL_arePupils_69 : decode cL_arePupils 69 = .ok (.aload_n 3, 1) := by decide +kernel
theorem dL_arePupils_70 : decode cL_arePupils 70 = .ok (.iload 6, 2) := by decide +kernel
theorem dL_arePupils_72 : decode cL_arePupils 72 = .ok (.invokestatic 28, 3) := by decide +kernel
theorem dL_arePupils_75 : decode cL_arePupils 75 = .ok (.isub, 1) := by decide +kernel
theorem dL_arePupils_76 : decode cL_arePupils 76 = .ok (.istore 7, 2) := by decide +kernel
theorem dL_arePupils_78 : decode cL_arePupils 78 = .ok (.ldc 59, 2) := by decide +kernel
theorem dL_arePupils_80 : decode cL_arePupils 80 = .ok (.istore 8, 2) := by decide +kernel
theorem dL_arePupils_82 : decode cL_arePupils 82 = .ok (.iconst 0, 1) := by decide +kernel
theorem dL_arePupils_83 : decode cL_arePupils 83 = .ok (.istore 9, 2) := by decide +kernel
theorem dL_arePupils_85 : decode cL_arePupils 85 = .ok (.iload 4, 2) := by decide +kernel
theorem dL_arePupils_87 : decode cL_arePupils 87 = .ok (.aload_n 2, 1) := by decide +kernel
theorem dL_arePupils_88 : decode cL_arePupils 88 = .ok (.bipush 6, 2) := by decide +kernel
theorem dL_arePupils_90 : decode cL_arePupils 90 = .ok (.iload 6, 2) := by decide +kernel
theorem dL_arePupils_92 : decode cL_arePupils 92 = .ok (.imul, 1) := by decide +kernel
theorem dL_arePupils_93 : decode cL_arePupils 93 = .ok (.iconst 2, 1) := by decide +kernel
theorem dL_arePupils_94 : decode cL_arePupils 94 = .ok (.iadd, 1) := by decide +kernel
theorem dL_arePupils_95 : decode cL_arePupils 95 = .ok (.iaload, 1) := by decide +kernel
theorem dL_arePupils_96 : decode cL_arePupils 96 = .ok (.ifCond .ne 10, 3) := by decide +kernel
theorem dL_arePupils_99 : decode cL_arePupils 99 = .ok (.iconst 1, 1) := by decide +kernel
theorem dL_arePupils_100 : decode cL_arePupils 100 = .ok (.iload 6, 2) := by decide +kernel
theorem dL_arePupils_102 : decode cL_arePupils 102 = .ok (.ishl, 1) := by decide +kernel
theorem dL_arePupils_103 : decode cL_arePupils 103 = .ok (.goto 4, 3) := by decide +kernel
theorem dL_arePupils_106 : decode cL_arePupils 106 = .ok (.iconst 0, 1) := by decide +kernel
theorem dL_arePupils_107 : decode cL_arePupils 107 = .ok (.ior, 1) := by decide +kernel
theorem dL_arePupils_108 : decode cL_arePupils 108 = .ok (.istore 4, 2) := by decide +kernel
theorem dL_arePupils_110 : decode cL_arePupils 110 = .ok (.iconst 0, 1) := by decide +kernel
theorem dL_arePupils_111 : decode cL_arePupils 111 = .ok (.istore 10, 2) := by decide +kernel
theorem dL_arePupils_113 : decode cL_arePupils 113 = .ok (.iload 10, 2) := by decide +kernel
theorem dL_arePupils_115 : decode cL_arePupils 115 = .ok (.aload_n 3, 1) := by decide +kernel
theorem dL_arePupils_116 : decode cL_arePupils 116 = .ok (.iconst 2, 1) := by decide +kernel
theorem dL_arePupils_117 : decode cL_arePupils 117 = .ok (.iaload, 1) := by decide +kernel
theorem dL_arePupils_118 : decode cL_arePupils 118 = .ok (.if_icmp .ge 78, 3) := by decide +kernel
theorem dL_arePupils_121 : decode cL_arePupils 121 = .ok (.aload_n 3, 1) := by decide +kernel
theorem dL_arePupils_122 : decode cL_arePupils 122 = .ok (.bipush 10, 2) := by decide +kernel
theorem dL_arePupils_124 : decode cL_arePupils 124 = .ok (.aload_n 1, 1) := by decide +kernel
theorem dL_arePupils_125 : decode cL_arePupils 125 = .ok (.iload 10, 2) := by decide +kernel
theorem dL_arePupils_127 : decode cL_arePupils 127 = .ok (.iaload, 1) := by decide +kernel
theorem dL_arePupils_128 : decode cL_arePupils 128 = .ok (.invokestatic 32, 3) := by decide +kernel
theorem dL_arePupils_131 : decode cL_arePupils 131 = .ok (.iadd, 1) := by decide +kernel
theorem dL_arePupils_132 : decode cL_arePupils 132 = .ok (.iaload, 1) := by decide +kernel
theorem dL_arePupils_133 : decode cL_arePupils 133 = .ok (.aload_n 1, 1) := by decide +kernel
theorem dL_arePupils_134 : decode cL_arePupils 134 = .ok (.iload 10, 2) := by decide +kernel
theorem dL_arePupils_136 : decode cL_arePupils 136 = .ok (.iaload, 1) := by decide +kernel
theorem dL_arePupils_137 : decode cL_arePupils 137 = .ok (.invokestatic 21, 3) := by decide +kernel
theorem dL_arePupils_140 : decode cL_arePupils 140 = .ok (.isub, 1) := by decide +kernel
theorem dL_arePupils_141 : decode cL_arePupils 141 = .ok (.istore 11, 2) := by decide +kernel
theorem dL_arePupils_143 : decode cL_arePupils 143 = .ok (.iload 11, 2) := by decide +kernel
theorem dL_arePupils_145 : decode cL_arePupils 145 = .ok (.iconst 1, 1) := by decide +kernel
theorem dL_arePupils_146 : decode cL_arePupils 146 = .ok (.if_icmp .ge 7, 3) := by decide +kernel
theorem dL_arePupils_149 : decode cL_arePupils 149 = .ok (.iconst 1, 1) := by decide +kernel

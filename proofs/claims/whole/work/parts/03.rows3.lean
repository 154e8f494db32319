theorem dX10_fewest_65 : decode cX10_fewest 65 = .ok (.iload_n 1, 1) := by decide +kernel
theorem dX10_fewest_66 : decode cX10_fewest 66 = .ok (.if_icmp .lt 5, 3) := by decide +kernel
theorem dX10_fewest_69 : decode cX10_fewest 69 = .ok (.iload_n 2, 1) := by decide +kernel
theorem dX10_fewest_70 : decode cX10_fewest 70 = .ok (.ireturn, 1) := by decide +kernel
theorem dX10_fewest_71 : decode cX10_fewest 71 = .ok (.iinc 2 1, 3) := by decide +kernel
theorem dX10_fewest_74 : decode cX10_fewest 74 = .ok (.goto (-39), 3) := by decide +kernel
theorem dX10_fewest_77 : decode cX10_fewest 77 = .ok (.bipush (-4), 2) := by decide +kernel
theorem dX10_fewest_79 : decode cX10_fewest 79 = .ok (.ireturn, 1) := by decide +kernel
set_option maxRecDepth 20000 in
theorem ggX10_handed_X10_within : GoodIn wsX10_handed wsX10_within := goodIn_r _ [8] (by decide +kernel) (by decide +kernel)
set_option maxRecDepth 20000 in
theorem gX10_handed_X10_within : GoodIn wsX10_handed (va_wsS RX10 95 yX10_within wsX10_within) := goodIn_app (goodIn_of _ (by decide +kernel)) ggX10_handed_X10_within
set_option maxRecDepth 20000 in
theorem ggX10_handed_X10_daysPaid : GoodIn wsX10_handed wsX10_daysPaid := goodIn_r _ [12, 13, 2, 3, 4, 14, 15, 16, 7, 17, 18, 19, 20, 21, 22, 23, 24, 25, 26, 27, 28, 29, 30, 31, 32, 33, 34, 35, 36, 37, 38, 39, 40, 41, 42, 43, 44, 45, 46, 47, 48, 49, 50, 51, 52, 53, 54, 55, 56, 57, 58, 59, 60, 61, 62, 63, 64, 65, 66, 67, 68, 69, 70, 71, 72, 73, 74, 75, 76, 144, 145, 146, 147, 148, 149, 150, 151, 152, 153, 154, 155, 156, 157, 158, 159, 160, 161, 162, 163, 164, 165, 166, 167, 168, 169, 170, 171, 172, 173, 174, 175] (by decide +kernel) (by decide +kernel)
set_option maxRecDepth 20000 in
theorem gX10_handed_X10_daysPaid : GoodIn wsX10_handed (wsV RX10 194 RX10 yX10_daysPaid wsX10_daysPaid) := goodIn_app (goodIn_of _ (by decide +kernel)) ggX10_handed_X10_daysPaid
set_option maxRecDepth 20000 in
theorem ggX10_handed_X6_hasLookedBack : GoodIn wsX10_handed wsX6_hasLookedBack := goodIn_r _ [81, 82, 83, 84, 85, 86, 87, 176, 177, 178, 179, 180, 181, 182, 183, 170, 171, 172, 173] (by decide +kernel) (by decide +kernel)
set_option maxRecDepth 20000 in
theorem gX10_handed_X6_hasLookedBack : GoodIn wsX10_handed (wsV RX10 220 RX6 yX6_hasLookedBack wsX6_hasLookedBack) := goodIn_app (goodIn_of _ (by decide +kernel)) ggX10_handed_X6_hasLookedBack
set_option maxRecDepth 20000 in
theorem ggX10_handed_X6_load : GoodIn wsX10_handed wsX6_load := goodIn_r _ [91, 84, 83, 82, 85, 86, 92, 93, 94, 95, 80, 96, 97, 98, 170, 171, 172, 173, 176, 177, 178, 179, 180, 181, 182, 183] (by decide +kernel) (by decide +kernel)
set_option maxRecDepth 20000 in
theorem gX10_handed_X6_load : GoodIn wsX10_handed (wsV RX10 197 RX6 yX6_load wsX6_load) := goodIn_app (goodIn_of _ (by decide +kernel)) ggX10_handed_X6_load
set_option maxRecDepth 20000 in
theorem ggX10_handed_X6_lookBack : GoodIn wsX10_handed wsX6_lookBack := goodIn_r _ [102, 103, 98, 87, 104, 105, 106, 107, 82, 108, 109, 110, 80, 111, 92, 97, 6, 7, 8, 112, 113, 114, 115, 116, 117, 118, 119, 120, 121, 122, 123, 124, 125, 126, 127, 128, 129, 130, 131, 132, 133, 134, 135, 176, 177, 178, 179, 180, 181, 182, 183] (by decide +kernel) (by decide +kernel)
set_option maxRecDepth 20000 in
theorem gX10_handed_X6_lookBack : GoodIn wsX10_handed (wsV RX10 224 RX6 yX6_lookBack wsX6_lookBack) := goodIn_app (goodIn_of _ (by decide +kernel)) ggX10_handed_X6_lookBack
set_option maxRecDepth 20000 in
theorem ggX10_handed_X6_handedInAll : GoodIn wsX10_handed wsX6_handedInAll := goodIn_r _ [139, 120, 121, 122, 80, 123, 124, 98, 112, 113, 114, 115, 92, 97, 6, 7, 8, 108, 109, 110, 111, 125, 126, 127, 128, 103, 129, 130, 131, 132, 133, 134, 135, 176, 177, 178, 179, 180, 181, 182, 183] (by decide +kernel) (by decide +kernel)
set_option maxRecDepth 20000 in
theorem gX10_handed_X6_handedInAll : GoodIn wsX10_handed (wsV RX10 228 RX6 yX6_handedInAll wsX6_handedInAll) := goodIn_app (goodIn_of _ (by decide +kernel)) ggX10_handed_X6_handedInAll
set_option maxRecDepth 20000 in
theorem ggX10_handed_X6_onCounter : GoodIn wsX10_handed wsX6_onCounter := goodIn_r _ [143, 120, 121, 122, 80, 123, 124, 98, 112, 113, 114, 115, 92, 97, 6, 7, 8, 108, 109, 110, 111, 125, 126, 127, 128, 103, 129, 130, 131, 132, 133, 134, 135, 176, 177, 178, 179, 180, 181, 182, 183] (by decide +kernel) (by decide +kernel)
set_option maxRecDepth 20000 in
theorem gX10_handed_X6_onCounter : GoodIn wsX10_handed (wsV RX10 231 RX6 yX6_onCounter wsX6_onCounter) := goodIn_app (goodIn_of _ (by decide +kernel)) ggX10_handed_X6_onCounter
theorem dX10_handed_0 : decode cX10_handed 0 = .ok (.iload_n 1, 1) := by decide +kernel
theorem dX10_handed_1 : decode cX10_handed 1 = .ok (.iconst 1, 1) := by decide +kernel
theorem dX10_handed_2 : decode cX10_handed 2 = .ok (.bipush 60, 2) := by decide +kernel
theorem dX10_handed_4 : decode cX10_handed 4 = .ok (.invokestatic 95, 3) := by decide +kernel
theorem dX10_handed_7 : decode cX10_handed 7 = .ok (.ifCond .eq 12, 3) := by decide +kernel
theorem dX10_handed_10 : decode cX10_handed 10 = .ok (.iload_n 2, 1) := by decide +kernel
theorem dX10_handed_11 : decode cX10_handed 11 = .ok (.iconst 0, 1) := by decide +kernel
theorem dX10_handed_12 : decode cX10_handed 12 = .ok (.iload_n 1, 1) := by decide +kernel
theorem dX10_handed_13 : decode cX10_handed 13 = .ok (.invokestatic 95, 3) := by decide +kernel
theorem dX10_handed_16 : decode cX10_handed 16 = .ok (.ifCond .ne 5, 3) := by decide +kernel
theorem dX10_handed_19 : decode cX10_handed 19 = .ok (.iconst (-1), 1) := by decide +kernel
theorem dX10_handed_20 : decode cX10_handed 20 = .ok (.ireturn, 1) := by decide +kernel
theorem dX10_handed_21 : decode cX10_handed 21 = .ok (.aload_n 0, 1) := by decide +kernel
theorem dX10_handed_22 : decode cX10_handed 22 = .ok (.invokevirtual 194, 3) := by decide +kernel
theorem dX10_handed_25 : decode cX10_handed 25 = .ok (.iload_n 1, 1) := by decide +kernel
theorem dX10_handed_26 : decode cX10_handed 26 = .ok (.if_icmp .ge 6, 3) := by decide +kernel
theorem dX10_handed_29 : decode cX10_handed 29 = .ok (.bipush (-2), 2) := by decide +kernel
theorem dX10_handed_31 : decode cX10_handed 31 = .ok (.ireturn, 1) := by decide +kernel
theorem dX10_handed_32 : decode cX10_handed 32 = .ok (.aload_n 0, 1) := by decide +kernel
theorem dX10_handed_33 : decode cX10_handed 33 = .ok (.getfield 56, 3) := by decide +kernel
theorem dX10_handed_36 : decode cX10_handed 36 = .ok (.aload_n 0, 1) := by decide +kernel
theorem dX10_handed_37 : decode cX10_handed 37 = .ok (.getfield 42, 3) := by decide +kernel
theorem dX10_handed_40 : decode cX10_handed 40 = .ok (.aload_n 0, 1) := by decide +kernel
theorem dX10_handed_41 : decode cX10_handed 41 = .ok (.getfield 19, 3) := by decide +kernel
theorem dX10_handed_44 : decode cX10_handed 44 = .ok (.getfield 184, 3) := by decide +kernel
theorem dX10_handed_47 : decode cX10_handed 47 = .ok (.iload_n 1, 1) := by decide +kernel
theorem dX10_handed_48 : decode cX10_handed 48 = .ok (.invokevirtual 220, 3) := by decide +kernel
theorem dX10_handed_51 : decode cX10_handed 51 = .ok (.ifCond .ne 29, 3) := by decide +kernel
theorem dX10_handed_54 : decode cX10_handed 54 = .ok (.aload_n 0, 1) := by decide +kernel
theorem dX10_handed_55 : decode cX10_handed 55 = .ok (.getfield 56, 3) := by decide +kernel
theorem dX10_handed_58 : decode cX10_handed 58 = .ok (.aload_n 0, 1) := by decide +kernel
theorem dX10_handed_59 : decode cX10_handed 59 = .ok (.getfield 42, 3) := by decide +kernel
theorem dX10_handed_62 : decode cX10_handed 62 = .ok (.invokevirtual 197, 3) := by decide +kernel
theorem dX10_handed_65 : decode cX10_handed 65 = .ok (.aload_n 0, 1) := by decide +kernel
theorem dX10_handed_66 : decode cX10_handed 66 = .ok (.getfield 56, 3) := by decide +kernel
theorem dX10_handed_69 : decode cX10_handed 69 = .ok (.aload_n 0, 1) := by decide +kernel
theorem dX10_handed_70 : decode cX10_handed 70 = .ok (.getfield 19, 3) := by decide +kernel
theorem dX10_handed_73 : decode cX10_handed 73 = .ok (.getfield 184, 3) := by decide +kernel
theorem dX10_handed_76 : decode cX10_handed 76 = .ok (.iload_n 1, 1) := by decide +kernel
theorem dX10_handed_77 : decode cX10_handed 77 = .ok (.invokevirtual 224, 3) := by decide +kernel
theorem dX10_handed_80 : decode cX10_handed 80 = .ok (.iload_n 2, 1) := by decide +kernel
theorem dX10_handed_81 : decode cX10_handed 81 = .ok (.ifCond .ne 20, 3) := by decide +kernel
theorem dX10_handed_84 : decode cX10_handed 84 = .ok (.aload_n 0, 1) := by decide +kernel
theorem dX10_handed_85 : decode cX10_handed 85 = .ok (.getfield 56, 3) := by decide +kernel
theorem dX10_handed_88 : decode cX10_handed 88 = .ok (.aload_n 0, 1) := by decide +kernel
theorem dX10_handed_89 : decode cX10_handed 89 = .ok (.getfield 19, 3) := by decide +kernel
theorem dX10_handed_92 : decode cX10_handed 92 = .ok (.getfield 184, 3) := by decide +kernel
theorem dX10_handed_95 : decode cX10_handed 95 = .ok (.invokevirtual 228, 3) := by decide +kernel
theorem dX10_handed_98 : decode cX10_handed 98 = .ok (.goto 18, 3) := by decide +kernel
theorem dX10_handed_101 : decode cX10_handed 101 = .ok (.aload_n 0, 1) := by decide +kernel
theorem dX10_handed_102 : decode cX10_handed 102 = .ok (.getfield 56, 3) := by decide +kernel
theorem dX10_handed_105 : decode cX10_handed 105 = .ok (.aload_n 0, 1) := by decide +kernel
theorem dX10_handed_106 : decode cX10_handed 106 = .ok (.getfield 19, 3) := by decide +kernel
theorem dX10_handed_109 : decode cX10_handed 109 = .ok (.getfield 184, 3) := by decide +kernel
theorem dX10_handed_112 : decode cX10_handed 112 = .ok (.iload_n 2, 1) := by decide +kernel
theorem dX10_handed_113 : decode cX10_handed 113 = .ok (.invokevirtual 231, 3) := by decide +kernel
theorem dX10_handed_116 : decode cX10_handed 116 = .ok (.ireturn, 1) := by decide +kernel
set_option maxRecDepth 20000 in
theorem ggX10_late_X10_within : GoodIn wsX10_late wsX10_within := goodIn_r _ [13] (by decide +kernel) (by decide +kernel)
set_option maxRecDepth 20000 in
theorem gX10_late_X10_within : GoodIn wsX10_late (va_wsS RX10 95 yX10_within wsX10_within) := goodIn_app (goodIn_of _ (by decide +kernel)) ggX10_late_X10_within
set_option maxRecDepth 20000 in
theorem ggX10_late_X10_daysPaid : GoodIn wsX10_late wsX10_daysPaid := goodIn_r _ [17, 6, 4, 8, 9, 18, 19, 20, 12, 21, 1, 22, 2, 23, 24, 25, 26, 27, 28, 29, 30, 31, 32, 33, 34, 35, 36, 37, 38, 39, 40, 41, 42, 43, 44, 45, 46, 47, 48, 49, 50, 51, 52, 53, 54, 55, 56, 57, 58, 59, 60, 61, 62, 63, 64, 65, 66, 67, 68, 69, 70, 71, 72, 73, 74, 75, 76, 77, 78, 123, 124, 125, 126, 127, 128, 129, 130, 131, 132, 133, 134, 135, 136, 137, 138, 149, 150, 151, 152, 139, 140, 141, 142, 143, 144, 153, 154, 155, 156, 157, 158] (by decide +kernel) (by decide +kernel)
set_option maxRecDepth 20000 in
theorem gX10_late_X10_daysPaid : GoodIn wsX10_late (wsV RX10 194 RX10 yX10_daysPaid wsX10_daysPaid) := goodIn_app (goodIn_of _ (by decide +kernel)) ggX10_late_X10_daysPaid
set_option maxRecDepth 20000 in
theorem ggX10_late_X4_choosePart : GoodIn wsX10_late wsX4_choosePart := goodIn_r _ [83, 84, 85, 86, 139, 140, 141, 142, 143, 144, 145, 146, 147, 148] (by decide +kernel) (by decide +kernel)
set_option maxRecDepth 20000 in
theorem gX10_late_X4_choosePart : GoodIn wsX10_late (wsV RX10 234 RX4 yX4_choosePart wsX4_choosePart) := goodIn_app (goodIn_of _ (by decide +kernel)) ggX10_late_X4_choosePart
set_option maxRecDepth 20000 in
theorem ggX10_late_X5_split : GoodIn wsX10_late wsX5_split := goodIn_r _ [27, 28, 29, 30, 31, 32, 33, 34, 35, 36, 37, 38, 39, 26, 40, 41, 42, 43, 44, 45, 46, 47, 48, 49, 50, 51, 52, 53, 153, 154, 155, 156, 139, 140, 141, 142, 143, 144] (by decide +kernel) (by decide +kernel)
set_option maxRecDepth 20000 in
theorem gX10_late_X5_split : GoodIn wsX10_late (wsV RX10 241 RX5 yX5_split wsX5_split) := goodIn_app (goodIn_of _ (by decide +kernel)) ggX10_late_X5_split
set_option maxRecDepth 20000 in
theorem ggX10_late_X8_load : GoodIn wsX10_late wsX8_load := goodIn_r _ [58, 59, 60, 61, 62, 63, 64, 65, 26, 66, 28, 43, 67, 68, 69, 57, 70, 157, 158, 153, 154, 155, 156] (by decide +kernel) (by decide +kernel)
set_option maxRecDepth 20000 in
theorem gX10_late_X8_load : GoodIn wsX10_late (wsV RX10 187 RX8 yX8_load wsX8_load) := goodIn_app (goodIn_of _ (by decide +kernel)) ggX10_late_X8_load
set_option maxRecDepth 20000 in
theorem ggX10_late_X8_paidDays : GoodIn wsX10_late wsX8_paidDays := goodIn_r _ [90, 75, 76, 77, 57, 78, 59, 60, 157, 158] (by decide +kernel) (by decide +kernel)
set_option maxRecDepth 20000 in
theorem gX10_late_X8_paidDays : GoodIn wsX10_late (wsV RX10 249 RX8 yX8_paidDays wsX8_paidDays) := goodIn_app (goodIn_of _ (by decide +kernel)) ggX10_late_X8_paidDays
set_option maxRecDepth 20000 in
theorem ggX10_late_X4_reckon : GoodIn wsX10_late wsX4_reckon := goodIn_r _ [94, 95, 96, 97, 98, 99, 100, 82, 101, 102, 103, 104, 105, 106, 107, 108, 109, 110, 111, 112, 145, 146, 147, 148] (by decide +kernel) (by decide +kernel)
set_option maxRecDepth 20000 in
theorem gX10_late_X4_reckon : GoodIn wsX10_late (wsV RX10 253 RX4 yX4_reckon wsX4_reckon) := goodIn_app (goodIn_of _ (by decide +kernel)) ggX10_late_X4_reckon
set_option maxRecDepth 20000 in
theorem ggX10_late_X4_together : GoodIn wsX10_late wsX4_together := goodIn_r _ [116, 97, 102, 145, 146, 147, 148] (by decide +kernel) (by decide +kernel)
set_option maxRecDepth 20000 in
theorem gX10_late_X4_together : GoodIn wsX10_late (wsV RX10 256 RX4 yX4_together wsX4_together) := goodIn_app (goodIn_of _ (by decide +kernel)) ggX10_late_X4_together
set_option maxRecDepth 20000 in
theorem ggX10_late_X4_dayOf : GoodIn wsX10_late wsX4_dayOf := goodIn_r _ [120, 102, 97, 103, 121, 122, 114, 115, 82, 116, 145, 146, 147, 148] (by decide +kernel) (by decide +kernel)
set_option maxRecDepth 20000 in
theorem gX10_late_X4_dayOf : GoodIn wsX10_late (wsV RX10 259 RX4 yX4_dayOf wsX4_dayOf) := goodIn_app (goodIn_of _ (by decide +kernel)) ggX10_late_X4_dayOf
theorem dX10_late_0 : decode cX10_late 0 = .ok (.iload_n 1, 1) := by decide +kernel
theorem dX10_late_1 : decode cX10_late 1 = .ok (.iconst 1, 1) := by decide +kernel
theorem dX10_late_2 : decode cX10_late 2 = .ok (.bipush 60, 2) := by decide +kernel
theorem dX10_late_4 : decode cX10_late 4 = .ok (.invokestatic 95, 3) := by decide +kernel
theorem dX10_late_7 : decode cX10_late 7 = .ok (.ifCond .eq 12, 3) := by decide +kernel
theorem dX10_late_10 : decode cX10_late 10 = .ok (.iload_n 2, 1) := by decide +kernel
theorem dX10_late_11 : decode cX10_late 11 = .ok (.iconst (-1), 1) := by decide +kernel
theorem dX10_late_12 : decode cX10_late 12 = .ok (.iconst 4, 1) := by decide +kernel
theorem dX10_late_13 : decode cX10_late 13 = .ok (.invokestatic 95, 3) := by decide +kernel
theorem dX10_late_16 : decode cX10_late 16 = .ok (.ifCond .ne 5, 3) := by decide +kernel
theorem dX10_late_19 : decode cX10_late 19 = .ok (.iconst (-1), 1) := by decide +kernel
theorem dX10_late_20 : decode cX10_late 20 = .ok (.ireturn, 1) := by decide +kernel
theorem dX10_late_21 : decode cX10_late 21 = .ok (.aload_n 0, 1) := by decide +kernel
theorem dX10_late_22 : decode cX10_late 22 = .ok (.invokevirtual 194, 3) := by decide +kernel
theorem dX10_late_25 : decode cX10_late 25 = .ok (.iload_n 1, 1) := by decide +kernel
theorem dX10_late_26 : decode cX10_late 26 = .ok (.if_icmp .ge 6, 3) := by decide +kernel
theorem dX10_late_29 : decode cX10_late 29 = .ok (.bipush (-2), 2) := by decide +kernel
theorem dX10_late_31 : decode cX10_late 31 = .ok (.ireturn, 1) := by decide +kernel
theorem dX10_late_32 : decode cX10_late 32 = .ok (.iload_n 2, 1) := by decide +kernel
theorem dX10_late_33 : decode cX10_late 33 = .ok (.aload_n 0, 1) := by decide +kernel
theorem dX10_late_34 : decode cX10_late 34 = .ok (.getfield 12, 3) := by decide +kernel
theorem dX10_late_37 : decode cX10_late 37 = .ok (.getfield 103, 3) := by decide +kernel
theorem dX10_late_40 : decode cX10_late 40 = .ok (.if_icmp .lt 6, 3) := by decide +kernel
theorem dX10_late_43 : decode cX10_late 43 = .ok (.bipush (-4), 2) := by decide +kernel
theorem dX10_late_45 : decode cX10_late 45 = .ok (.ireturn, 1) := by decide +kernel
theorem dX10_late_46 : decode cX10_late 46 = .ok (.iconst 0, 1) := by decide +kernel
theorem dX10_late_47 : decode cX10_late 47 = .ok (.istore_n 3, 1) := by decide +kernel
theorem dX10_late_48 : decode cX10_late 48 = .ok (.iload_n 3, 1) := by decide +kernel
theorem dX10_late_49 : decode cX10_late 49 = .ok (.iconst 1, 1) := by decide +kernel
theorem dX10_late_50 : decode cX10_late 50 = .ok (.aload_n 0, 1) := by decide +kernel
theorem dX10_late_51 : decode cX10_late 51 = .ok (.getfield 12, 3) := by decide +kernel
theorem dX10_late_54 : decode cX10_late 54 = .ok (.getfield 103, 3) := by decide +kernel
theorem dX10_late_57 : decode cX10_late 57 = .ok (.ishl, 1) := by decide +kernel
theorem dX10_late_58 : decode cX10_late 58 = .ok (.if_icmp .ge 77, 3) := by decide +kernel
theorem dX10_late_61 : decode cX10_late 61 = .ok (.aload_n 0, 1) := by decide +kernel
theorem dX10_late_62 : decode cX10_late 62 = .ok (.getfield 77, 3) := by decide +kernel
theorem dX10_late_65 : decode cX10_late 65 = .ok (.aload_n 0, 1) := by decide +kernel
theorem dX10_late_66 : decode cX10_late 66 = .ok (.getfield 12, 3) := by decide +kernel
theorem dX10_late_69 : decode cX10_late 69 = .ok (.iload_n 3, 1) := by decide +kernel
theorem dX10_late_70 : decode cX10_late 70 = .ok (.invokevirtual 234, 3) := by decide +kernel
theorem dX10_late_73 : decode cX10_late 73 = .ok (.istore 4, 2) := by decide +kernel
theorem dX10_late_75 : decode cX10_late 75 = .ok (.aload_n 0, 1) := by decide +kernel
theorem dX10_late_76 : decode cX10_late 76 = .ok (.getfield 42, 3) := by decide +kernel
theorem dX10_late_79 : decode cX10_late 79 = .ok (.aload_n 0, 1) := by decide +kernel
theorem dX10_late_80 : decode cX10_late 80 = .ok (.getfield 12, 3) := by decide +kernel
theorem dX10_late_83 : decode cX10_late 83 = .ok (.aload_n 0, 1) := by decide +kernel
theorem dX10_late_84 : decode cX10_late 84 = .ok (.getfield 77, 3) := by decide +kernel
theorem dX10_late_87 : decode cX10_late 87 = .ok (.getfield 238, 3) := by decide +kernel
theorem dX10_late_90 : decode cX10_late 90 = .ok (.iload 4, 2) := by decide +kernel
theorem dX10_late_92 : decode cX10_late 92 = .ok (.invokevirtual 241, 3) := by decide +kernel
theorem dX10_late_95 : decode cX10_late 95 = .ok (.aload_n 0, 1) := by decide +kernel
theorem dX10_late_96 : decode cX10_late 96 = .ok (.getfield 49, 3) := by decide +kernel
theorem dX10_late_99 : decode cX10_late 99 = .ok (.aload_n 0, 1) := by decide +kernel
theorem dX10_late_100 : decode cX10_late 100 = .ok (.getfield 42, 3) := by decide +kernel
theorem dX10_late_103 : decode cX10_late 103 = .ok (.invokevirtual 187, 3) := by decide +kernel
theorem dX10_late_106 : decode cX10_late 106 = .ok (.aload_n 0, 1) := by decide +kernel
theorem dX10_late_107 : decode cX10_late 107 = .ok (.getfield 77, 3) := by decide +kernel
theorem dX10_late_110 : decode cX10_late 110 = .ok (.getfield 245, 3) := by decide +kernel
theorem dX10_late_113 : decode cX10_late 113 = .ok (.iload_n 3, 1) := by decide +kernel
theorem dX10_late_114 : decode cX10_late 114 = .ok (.aload_n 0, 1) := by decide +kernel
theorem dX10_late_115 : decode cX10_late 115 = .ok (.getfield 49, 3) := by decide +kernel
theorem dX10_late_118 : decode cX10_late 118 = .ok (.aload_n 0, 1) := by decide +kernel
theorem dX10_late_119 : decode cX10_late 119 = .ok (.getfield 19, 3) := by decide +kernel
theorem dX10_late_122 : decode cX10_late 122 = .ok (.getfield 184, 3) := by decide +kernel
theorem dX10_late_125 : decode cX10_late 125 = .ok (.invokevirtual 249, 3) := by decide +kernel
theorem dX10_late_128 : decode cX10_late 128 = .ok (.lastore, 1) := by decide +kernel
theorem dX10_late_129 : decode cX10_late 129 = .ok (.iinc 3 1, 3) := by decide +kernel
theorem dX10_late_132 : decode cX10_late 132 = .ok (.goto (-84), 3) := by decide +kernel
theorem dX10_late_135 : decode cX10_late 135 = .ok (.aload_n 0, 1) := by decide +kernel
theorem dX10_late_136 : decode cX10_late 136 = .ok (.getfield 77, 3) := by decide +kernel
theorem dX10_late_139 : decode cX10_late 139 = .ok (.aload_n 0, 1) := by decide +kernel
theorem dX10_late_140 : decode cX10_late 140 = .ok (.getfield 12, 3) := by decide +kernel
theorem dX10_late_143 : decode cX10_late 143 = .ok (.getfield 103, 3) := by decide +kernel
theorem dX10_late_146 : decode cX10_late 146 = .ok (.iload_n 1, 1) := by decide +kernel
theorem dX10_late_147 : decode cX10_late 147 = .ok (.invokevirtual 253, 3) := by decide +kernel
theorem dX10_late_150 : decode cX10_late 150 = .ok (.iload_n 2, 1) := by decide +kernel
theorem dX10_late_151 : decode cX10_late 151 = .ok (.ifCond .ge 13, 3) := by decide +kernel
theorem dX10_late_154 : decode cX10_late 154 = .ok (.aload_n 0, 1) := by decide +kernel
theorem dX10_late_155 : decode cX10_late 155 = .ok (.getfield 77, 3) := by decide +kernel
theorem dX10_late_158 : decode cX10_late 158 = .ok (.invokevirtual 256, 3) := by decide +kernel
theorem dX10_late_161 : decode cX10_late 161 = .ok (.goto 11, 3) := by decide +kernel
theorem dX10_late_164 : decode cX10_late 164 = .ok (.aload_n 0, 1) := by decide +kernel
theorem dX10_late_165 : decode cX10_late 165 = .ok (.getfield 77, 3) := by decide +kernel
theorem dX10_late_168 : decode cX10_late 168 = .ok (.iload_n 2, 1) := by decide +kernel
theorem dX10_late_169 : decode cX10_late 169 = .ok (.invokevirtual 259, 3) := by decide +kernel
theorem dX10_late_172 : decode cX10_late 172 = .ok (.ireturn, 1) := by decide +kernel
set_option maxRecDepth 20000 in
theorem ggX10_image_X1_take : GoodIn wsX10_image wsX1_take := goodIn_r _ [10, 11, 12, 13, 14, 15, 16, 17, 18, 19, 20, 47, 48, 49, 50, 51, 52] (by decide +kernel) (by decide +kernel)
set_option maxRecDepth 20000 in
theorem gX10_image_X1_take : GoodIn wsX10_image (wsV RX10 152 RX1 yX1_take wsX1_take) := goodIn_app (goodIn_of _ (by decide +kernel)) ggX10_image_X1_take
set_option maxRecDepth 20000 in
theorem ggX10_image_X3_take : GoodIn wsX10_image wsX3_take := goodIn_r _ [25, 26, 27, 13, 14, 15, 28, 29, 30, 53, 54, 55, 56] (by decide +kernel) (by decide +kernel)
set_option maxRecDepth 20000 in
theorem gX10_image_X3_take : GoodIn wsX10_image (wsV RX10 262 RX3 yX3_take wsX3_take) := goodIn_app (goodIn_of _ (by decide +kernel)) ggX10_image_X3_take
theorem dX10_image_0 : decode cX10_image 0 = .ok (.aload_n 0, 1) := by decide +kernel
theorem dX10_image_1 : decode cX10_image 1 = .ok (.getfield 23, 3) := by decide +kernel
theorem dX10_image_4 : decode cX10_image 4 = .ok (.aload_n 0, 1) := by decide +kernel
theorem dX10_image_5 : decode cX10_image 5 = .ok (.getfield 12, 3) := by decide +kernel
theorem dX10_image_8 : decode cX10_image 8 = .ok (.invokevirtual 152, 3) := by decide +kernel
theorem dX10_image_11 : decode cX10_image 11 = .ok (.aload_n 0, 1) := by decide +kernel
theorem dX10_image_12 : decode cX10_image 12 = .ok (.getfield 26, 3) := by decide +kernel
theorem dX10_image_15 : decode cX10_image 15 = .ok (.aload_n 0, 1) := by decide +kernel
theorem dX10_image_16 : decode cX10_image 16 = .ok (.getfield 19, 3) := by decide +kernel
theorem dX10_image_19 : decode cX10_image 19 = .ok (.invokevirtual 262, 3) := by decide +kernel
theorem dX10_image_22 : decode cX10_image 22 = .ok (.aload_n 0, 1) := by decide +kernel
theorem dX10_image_23 : decode cX10_image 23 = .ok (.iconst 1, 1) := by decide +kernel
theorem dX10_image_24 : decode cX10_image 24 = .ok (.putfield 265, 3) := by decide +kernel
theorem dX10_image_27 : decode cX10_image 27 = .ok (.iconst 1, 1) := by decide +kernel
theorem dX10_image_28 : decode cX10_image 28 = .ok (.ireturn, 1) := by decide +kernel
set_option maxRecDepth 20000 in
theorem ggX10_restore_X1_take : GoodIn wsX10_restore wsX1_take := goodIn_r _ [11, 12, 13, 14, 15, 16, 17, 18, 19, 20, 21, 54, 55, 56, 57, 58, 59] (by decide +kernel) (by decide +kernel)
set_option maxRecDepth 20000 in
theorem gX10_restore_X1_take : GoodIn wsX10_restore (wsV RX10 152 RX1 yX1_take wsX1_take) := goodIn_app (goodIn_of _ (by decide +kernel)) ggX10_restore_X1_take
set_option maxRecDepth 20000 in
theorem ggX10_restore_X3_take : GoodIn wsX10_restore wsX3_take := goodIn_r _ [26, 27, 28, 14, 15, 16, 29, 30, 31, 60, 61, 62, 63] (by decide +kernel) (by decide +kernel)
set_option maxRecDepth 20000 in
theorem gX10_restore_X3_take : GoodIn wsX10_restore (wsV RX10 262 RX3 yX3_take wsX3_take) := goodIn_app (goodIn_of _ (by decide +kernel)) ggX10_restore_X3_take
set_option maxRecDepth 20000 in
theorem ggX10_restore_X0_forget : GoodIn wsX10_restore wsX0_forget := goodIn_r _ [36, 37, 64, 65, 66] (by decide +kernel) (by decide +kernel)
set_option maxRecDepth 20000 in
theorem gX10_restore_X0_forget : GoodIn wsX10_restore (wsV RX10 106 RX0 yX0_forget wsX0_forget) := goodIn_app (goodIn_of _ (by decide +kernel)) ggX10_restore_X0_forget
theorem dX10_restore_0 : decode cX10_restore 0 = .ok (.aload_n 0, 1) := by decide +kernel
theorem dX10_restore_1 : decode cX10_restore 1 = .ok (.getfield 265, 3) := by decide +kernel
theorem dX10_restore_4 : decode cX10_restore 4 = .ok (.ifCond .ne 6, 3) := by decide +kernel
theorem dX10_restore_7 : decode cX10_restore 7 = .ok (.bipush (-4), 2) := by decide +kernel
theorem dX10_restore_9 : decode cX10_restore 9 = .ok (.ireturn, 1) := by decide +kernel
theorem dX10_restore_10 : decode cX10_restore 10 = .ok (.aload_n 0, 1) := by decide +kernel
theorem dX10_restore_11 : decode cX10_restore 11 = .ok (.getfield 12, 3) := by decide +kernel
theorem dX10_restore_14 : decode cX10_restore 14 = .ok (.aload_n 0, 1) := by decide +kernel
theorem dX10_restore_15 : decode cX10_restore 15 = .ok (.getfield 23, 3) := by decide +kernel
theorem dX10_restore_18 : decode cX10_restore 18 = .ok (.invokevirtual 152, 3) := by decide +kernel
theorem dX10_restore_21 : decode cX10_restore 21 = .ok (.aload_n 0, 1) := by decide +kernel
theorem dX10_restore_22 : decode cX10_restore 22 = .ok (.getfield 19, 3) := by decide +kernel
theorem dX10_restore_25 : decode cX10_restore 25 = .ok (.aload_n 0, 1) := by decide +kernel
theorem dX10_restore_26 : decode cX10_restore 26 = .ok (.getfield 26, 3) := by decide +kernel
theorem dX10_restore_29 : decode cX10_restore 29 = .ok (.invokevirtual 262, 3) := by decide +kernel
theorem dX10_restore_32 : decode cX10_restore 32 = .ok (.aload_n 0, 1) := by decide +kernel
theorem dX10_restore_33 : decode cX10_restore 33 = .ok (.getfield 70, 3) := by decide +kernel
theorem dX10_restore_36 : decode cX10_restore 36 = .ok (.invokevirtual 106, 3) := by decide +kernel
theorem dX10_restore_39 : decode cX10_restore 39 = .ok (.iconst 1, 1) := by decide +kernel
theorem dX10_restore_40 : decode cX10_restore 40 = .ok (.ireturn, 1) := by decide +kernel
set_option maxRecDepth 20000 in
theorem ggX10_seen_X10_within : GoodIn wsX10_seen wsX10_within := goodIn_r _ [6] (by decide +kernel) (by decide +kernel)
set_option maxRecDepth 20000 in
theorem gX10_seen_X10_within : GoodIn wsX10_seen (va_wsS RX10 95 yX10_within wsX10_within) := goodIn_app (goodIn_of _ (by decide +kernel)) ggX10_seen_X10_within
set_option maxRecDepth 20000 in
theorem ggX10_seen_X10_isRow : GoodIn wsX10_seen wsX10_isRow := goodIn_r _ [9, 3, 4, 5, 6] (by decide +kernel) (by decide +kernel)
set_option maxRecDepth 20000 in
theorem gX10_seen_X10_isRow : GoodIn wsX10_seen (va_wsS RX10 269 yX10_isRow wsX10_isRow) := goodIn_app (goodIn_of _ (by decide +kernel)) ggX10_seen_X10_isRow
set_option maxRecDepth 20000 in
theorem ggX10_seen_X7_refusal : GoodIn wsX10_seen wsX7_refusal := goodIn_r _ [14, 15, 16, 17, 18, 19, 13, 20, 21, 115, 116, 117, 118] (by decide +kernel) (by decide +kernel)
set_option maxRecDepth 20000 in
theorem gX10_seen_X7_refusal : GoodIn wsX10_seen (wsV RX10 273 RX7 yX7_refusal wsX7_refusal) := goodIn_app (goodIn_of _ (by decide +kernel)) ggX10_seen_X7_refusal
set_option maxRecDepth 20000 in
theorem ggX10_seen_X10_takeWanted : GoodIn wsX10_seen wsX10_takeWanted := goodIn_r _ [25, 26, 27, 28, 115, 116, 117, 118, 99, 100, 101, 102, 103, 104, 105, 106, 107, 108, 109, 110, 111, 112, 113, 114] (by decide +kernel) (by decide +kernel)
set_option maxRecDepth 20000 in
theorem gX10_seen_X10_takeWanted : GoodIn wsX10_seen (wsV RX10 277 RX10 yX10_takeWanted wsX10_takeWanted) := goodIn_app (goodIn_of _ (by decide +kernel)) ggX10_seen_X10_takeWanted
set_option maxRecDepth 20000 in
theorem ggX10_seen_X10_countSeen : GoodIn wsX10_seen wsX10_countSeen := goodIn_r _ [32, 33, 34, 35, 36, 37, 28, 2, 38, 39, 40, 41, 42, 43, 44, 45, 46, 47, 48, 49, 50, 51, 52, 53, 54, 55, 56, 57, 58, 59, 60, 61, 62, 63, 64, 65, 66, 67, 68, 69, 70, 71, 72, 73, 74, 75, 76, 77, 78, 79, 80, 81, 82, 83, 84, 85, 86, 87, 88, 89, 90, 91, 92, 93, 94, 95, 96, 97, 98, 99, 100, 101, 102, 103, 104, 105, 106, 107, 108, 109, 110, 111, 112, 113, 114, 119, 120, 121, 122, 123, 124, 125, 126, 127, 128, 129, 130, 131] (by decide +kernel) (by decide +kernel)
set_option maxRecDepth 20000 in
theorem gX10_seen_X10_countSeen : GoodIn wsX10_seen (wsV RX10 281 RX10 yX10_countSeen wsX10_countSeen) := goodIn_app (goodIn_of _ (by decide +kernel)) ggX10_seen_X10_countSeen
theorem dX10_seen_0 : decode cX10_seen 0 = .ok (.iload_n 1, 1) := by decide +kernel
theorem dX10_seen_1 : decode cX10_seen 1 = .ok (.iconst 0, 1) := by decide +kernel
theorem dX10_seen_2 : decode cX10_seen 2 = .ok (.iconst 3, 1) := by decide +kernel
theorem dX10_seen_3 : decode cX10_seen 3 = .ok (.invokestatic 95, 3) := by decide +kernel
theorem dX10_seen_6 : decode cX10_seen 6 = .ok (.ifCond .eq 32, 3) := by decide +kernel
theorem dX10_seen_9 : decode cX10_seen 9 = .ok (.iload_n 2, 1) := by decide +kernel
theorem dX10_seen_10 : decode cX10_seen 10 = .ok (.iload_n 3, 1) := by decide +kernel
theorem dX10_seen_11 : decode cX10_seen 11 = .ok (.invokestatic 269, 3) := by decide +kernel
theorem dX10_seen_14 : decode cX10_seen 14 = .ok (.ifCond .eq 24, 3) := by decide +kernel
theorem dX10_seen_17 : decode cX10_seen 17 = .ok (.iload 5, 2) := by decide +kernel
theorem dX10_seen_19 : decode cX10_seen 19 = .ok (.iconst 1, 1) := by decide +kernel
theorem dX10_seen_20 : decode cX10_seen 20 = .ok (.bipush 8, 2) := by decide +kernel
theorem dX10_seen_22 : decode cX10_seen 22 = .ok (.invokestatic 95, 3) := by decide +kernel
theorem dX10_seen_25 : decode cX10_seen 25 = .ok (.ifCond .eq 13, 3) := by decide +kernel
theorem dX10_seen_28 : decode cX10_seen 28 = .ok (.iload 6, 2) := by decide +kernel
theorem dX10_seen_30 : decode cX10_seen 30 = .ok (.iconst (-1), 1) := by decide +kernel
theorem dX10_seen_31 : decode cX10_seen 31 = .ok (.iconst 2, 1) := by decide +kernel
theorem dX10_seen_32 : decode cX10_seen 32 = .ok (.invokestatic 95, 3) := by decide +kernel
theorem dX10_seen_35 : decode cX10_seen 35 = .ok (.ifCond .ne 5, 3) := by decide +kernel
theorem dX10_seen_38 : decode cX10_seen 38 = .ok (.iconst (-1), 1) := by decide +kernel
theorem dX10_seen_39 : decode cX10_seen 39 = .ok (.ireturn, 1) := by decide +kernel
theorem dX10_seen_40 : decode cX10_seen 40 = .ok (.aload_n 0, 1) := by decide +kernel
theorem dX10_seen_41 : decode cX10_seen 41 = .ok (.getfield 83, 3) := by decide +kernel
theorem dX10_seen_44 : decode cX10_seen 44 = .ok (.iload_n 2, 1) := by decide +kernel
theorem dX10_seen_45 : decode cX10_seen 45 = .ok (.aaload, 1) := by decide +kernel
theorem dX10_seen_46 : decode cX10_seen 46 = .ok (.iload_n 3, 1) := by decide +kernel
theorem dX10_seen_47 : decode cX10_seen 47 = .ok (.iload 4, 2) := by decide +kernel
theorem dX10_seen_49 : decode cX10_seen 49 = .ok (.iload 5, 2) := by decide +kernel
theorem dX10_seen_51 : decode cX10_seen 51 = .ok (.invokevirtual 273, 3) := by decide +kernel
theorem dX10_seen_54 : decode cX10_seen 54 = .ok (.istore 7, 2) := by decide +kernel
theorem dX10_seen_56 : decode cX10_seen 56 = .ok (.iload 7, 2) := by decide +kernel
theorem dX10_seen_58 : decode cX10_seen 58 = .ok (.ifCond .eq 6, 3) := by decide +kernel
theorem dX10_seen_61 : decode cX10_seen 61 = .ok (.iload 7, 2) := by decide +kernel
theorem dX10_seen_63 : decode cX10_seen 63 = .ok (.ireturn, 1) := by decide +kernel
theorem dX10_seen_64 : decode cX10_seen 64 = .ok (.aload_n 0, 1) := by decide +kernel
theorem dX10_seen_65 : decode cX10_seen 65 = .ok (.aload_n 0, 1) := by decide +kernel
theorem dX10_seen_66 : decode cX10_seen 66 = .ok (.getfield 83, 3) := by decide +kernel
theorem dX10_seen_69 : decode cX10_seen 69 = .ok (.iload_n 2, 1) := by decide +kernel
theorem dX10_seen_70 : decode cX10_seen 70 = .ok (.aaload, 1) := by decide +kernel
theorem dX10_seen_71 : decode cX10_seen 71 = .ok (.iload 4, 2) := by decide +kernel
theorem dX10_seen_73 : decode cX10_seen 73 = .ok (.iload 5, 2) := by decide +kernel
theorem dX10_seen_75 : decode cX10_seen 75 = .ok (.invokevirtual 277, 3) := by decide +kernel
theorem dX10_seen_78 : decode cX10_seen 78 = .ok (.ifCond .ne 6, 3) := by decide +kernel
theorem dX10_seen_81 : decode cX10_seen 81 = .ok (.bipush (-2), 2) := by decide +kernel
theorem dX10_seen_83 : decode cX10_seen 83 = .ok (.ireturn, 1) := by decide +kernel
theorem dX10_seen_84 : decode cX10_seen 84 = .ok (.aload_n 0, 1) := by decide +kernel
theorem dX10_seen_85 : decode cX10_seen 85 = .ok (.iload_n 1, 1) := by decide +kernel
theorem dX10_seen_86 : decode cX10_seen 86 = .ok (.iload 5, 2) := by decide +kernel
theorem dX10_seen_88 : decode cX10_seen 88 = .ok (.invokevirtual 281, 3) := by decide +kernel
theorem dX10_seen_91 : decode cX10_seen 91 = .ok (.istore 8, 2) := by decide +kernel
theorem dX10_seen_93 : decode cX10_seen 93 = .ok (.iload 6, 2) := by decide +kernel
theorem dX10_seen_95 : decode cX10_seen 95 = .ok (.ifCond .ge 6, 3) := by decide +kernel
theorem dX10_seen_98 : decode cX10_seen 98 = .ok (.iload 8, 2) := by decide +kernel
theorem dX10_seen_100 : decode cX10_seen 100 = .ok (.ireturn, 1) := by decide +kernel
theorem dX10_seen_101 : decode cX10_seen 101 = .ok (.iload 8, 2) := by decide +kernel
theorem dX10_seen_103 : decode cX10_seen 103 = .ok (.ifCond .eq 9, 3) := by decide +kernel
theorem dX10_seen_106 : decode cX10_seen 106 = .ok (.iload 6, 2) := by decide +kernel
theorem dX10_seen_108 : decode cX10_seen 108 = .ok (.iload_n 1, 1) := by decide +kernel
theorem dX10_seen_109 : decode cX10_seen 109 = .ok (.if_icmp .lt 8, 3) := by decide +kernel
theorem dX10_seen_112 : decode cX10_seen 112 = .ok (.bipush (-4), 2) := by decide +kernel
theorem dX10_seen_114 : decode cX10_seen 114 = .ok (.goto 10, 3) := by decide +kernel
theorem dX10_seen_117 : decode cX10_seen 117 = .ok (.aload_n 0, 1) := by decide +kernel
theorem dX10_seen_118 : decode cX10_seen 118 = .ok (.getfield 91, 3) := by decide +kernel
theorem dX10_seen_121 : decode cX10_seen 121 = .ok (.iload 6, 2) := by decide +kernel
theorem dX10_seen_123 : decode cX10_seen 123 = .ok (.iaload, 1) := by decide +kernel
theorem dX10_seen_124 : decode cX10_seen 124 = .ok (.ireturn, 1) := by decide +kernel
set_option maxRecDepth 20000 in
theorem ggX10_film_X10_isRow : GoodIn wsX10_film wsX10_isRow := goodIn_r _ [8, 9, 10, 7, 11] (by decide +kernel) (by decide +kernel)
set_option maxRecDepth 20000 in
theorem gX10_film_X10_isRow : GoodIn wsX10_film (va_wsS RX10 269 yX10_isRow wsX10_isRow) := goodIn_app (goodIn_of _ (by decide +kernel)) ggX10_film_X10_isRow
set_option maxRecDepth 20000 in
theorem ggX10_film_X10_divide : GoodIn wsX10_film wsX10_divide := goodIn_r _ [15, 2, 16, 17, 18, 19, 20, 21, 22, 23, 24, 25, 26, 27, 28, 29, 30, 31, 32, 33, 34, 35, 36, 37, 38, 39, 40, 41, 42, 43, 44, 45, 46, 47, 48, 49, 67, 68, 69, 70, 71, 72, 73, 74, 75, 76, 77, 78, 79, 80, 81, 82, 87, 88, 89, 90, 91, 92, 83, 84, 85, 86] (by decide +kernel) (by decide +kernel)
set_option maxRecDepth 20000 in
theorem gX10_film_X10_divide : GoodIn wsX10_film (wsV RX10 160 RX10 yX10_divide wsX10_divide) := goodIn_app (goodIn_of _ (by decide +kernel)) ggX10_film_X10_divide
set_option maxRecDepth 20000 in
theorem ggX10_film_X7_refusal : GoodIn wsX10_film wsX7_refusal := goodIn_r _ [54, 55, 56, 57, 58, 59, 53, 60, 61, 93, 94, 95, 96] (by decide +kernel) (by decide +kernel)
set_option maxRecDepth 20000 in
theorem gX10_film_X7_refusal : GoodIn wsX10_film (wsV RX10 273 RX7 yX7_refusal wsX7_refusal) := goodIn_app (goodIn_of _ (by decide +kernel)) ggX10_film_X7_refusal
set_option maxRecDepth 20000 in
theorem ggX10_film_X7_put : GoodIn wsX10_film wsX7_put := goodIn_r _ [65, 66, 56, 93, 94, 95, 96] (by decide +kernel) (by decide +kernel)
set_option maxRecDepth 20000 in
theorem gX10_film_X7_put : GoodIn wsX10_film (wsV RX10 284 RX7 yX7_put wsX7_put) := goodIn_app (goodIn_of _ (by decide +kernel)) ggX10_film_X7_put
theorem dX10_film_0 : decode cX10_film 0 = .ok (.iload_n 1, 1) := by decide +kernel
theorem dX10_film_1 : decode cX10_film 1 = .ok (.iload_n 2, 1) := by decide +kernel
theorem dX10_film_2 : decode cX10_film 2 = .ok (.invokestatic 269, 3) := by decide +kernel
theorem dX10_film_5 : decode cX10_film 5 = .ok (.ifCond .ne 5, 3) := by decide +kernel
theorem dX10_film_8 : decode cX10_film 8 = .ok (.iconst (-1), 1) := by decide +kernel
theorem dX10_film_9 : decode cX10_film 9 = .ok (.ireturn, 1) := by decide +kernel
theorem dX10_film_10 : decode cX10_film 10 = .ok (.aload_n 0, 1) := by decide +kernel
theorem dX10_film_11 : decode cX10_film 11 = .ok (.invokevirtual 160, 3) := by decide +kernel
theorem dX10_film_14 : decode cX10_film 14 = .ok (.aload_n 0, 1) := by decide +kernel
theorem dX10_film_15 : decode cX10_film 15 = .ok (.getfield 83, 3) := by decide +kernel
theorem dX10_film_18 : decode cX10_film 18 = .ok (.iload_n 1, 1) := by decide +kernel
theorem dX10_film_19 : decode cX10_film 19 = .ok (.aaload, 1) := by decide +kernel
theorem dX10_film_20 : decode cX10_film 20 = .ok (.iload_n 2, 1) := by decide +kernel
theorem dX10_film_21 : decode cX10_film 21 = .ok (.iload_n 3, 1) := by decide +kernel
theorem dX10_film_22 : decode cX10_film 22 = .ok (.aload_n 0, 1) := by decide +kernel
theorem dX10_film_23 : decode cX10_film 23 = .ok (.getfield 42, 3) := by decide +kernel
theorem dX10_film_26 : decode cX10_film 26 = .ok (.getfield 163, 3) := by decide +kernel
theorem dX10_film_29 : decode cX10_film 29 = .ok (.invokevirtual 273, 3) := by decide +kernel
theorem dX10_film_32 : decode cX10_film 32 = .ok (.istore 4, 2) := by decide +kernel
theorem dX10_film_34 : decode cX10_film 34 = .ok (.iload 4, 2) := by decide +kernel
theorem dX10_film_36 : decode cX10_film 36 = .ok (.ifCond .eq 6, 3) := by decide +kernel
theorem dX10_film_39 : decode cX10_film 39 = .ok (.iload 4, 2) := by decide +kernel
theorem dX10_film_41 : decode cX10_film 41 = .ok (.ireturn, 1) := by decide +kernel
theorem dX10_film_42 : decode cX10_film 42 = .ok (.iconst 0, 1) := by decide +kernel
theorem dX10_film_43 : decode cX10_film 43 = .ok (.istore 5, 2) := by decide +kernel
theorem dX10_film_45 : decode cX10_film 45 = .ok (.iload 5, 2) := by decide +kernel
theorem dX10_film_47 : decode cX10_film 47 = .ok (.aload_n 0, 1) := by decide +kernel
theorem dX10_film_48 : decode cX10_film 48 = .ok (.getfield 42, 3) := by decide +kernel
theorem dX10_film_51 : decode cX10_film 51 = .ok (.getfield 163, 3) := by decide +kernel
theorem dX10_film_54 : decode cX10_film 54 = .ok (.if_icmp .ge 33, 3) := by decide +kernel
theorem dX10_film_57 : decode cX10_film 57 = .ok (.aload_n 0, 1) := by decide +kernel
theorem dX10_film_58 : decode cX10_film 58 = .ok (.getfield 83, 3) := by decide +kernel
theorem dX10_film_61 : decode cX10_film 61 = .ok (.iload_n 1, 1) := by decide +kernel
theorem dX10_film_62 : decode cX10_film 62 = .ok (.aaload, 1) := by decide +kernel
theorem dX10_film_63 : decode cX10_film 63 = .ok (.iload_n 3, 1) := by decide +kernel
theorem dX10_film_64 : decode cX10_film 64 = .ok (.iload 5, 2) := by decide +kernel
theorem dX10_film_66 : decode cX10_film 66 = .ok (.iadd, 1) := by decide +kernel
theorem dX10_film_67 : decode cX10_film 67 = .ok (.aload_n 0, 1) := by decide +kernel
theorem dX10_film_68 : decode cX10_film 68 = .ok (.getfield 42, 3) := by decide +kernel
theorem dX10_film_71 : decode cX10_film 71 = .ok (.getfield 175, 3) := by decide +kernel
theorem dX10_film_74 : decode cX10_film 74 = .ok (.iload 5, 2) := by decide +kernel
theorem dX10_film_76 : decode cX10_film 76 = .ok (.iaload, 1) := by decide +kernel
theorem dX10_film_77 : decode cX10_film 77 = .ok (.i2l, 1) := by decide +kernel
theorem dX10_film_78 : decode cX10_film 78 = .ok (.invokevirtual 284, 3) := by decide +kernel
theorem dX10_film_81 : decode cX10_film 81 = .ok (.iinc 5 1, 3) := by decide +kernel
theorem dX10_film_84 : decode cX10_film 84 = .ok (.goto (-39), 3) := by decide +kernel
theorem dX10_film_87 : decode cX10_film 87 = .ok (.aload_n 0, 1) := by decide +kernel
theorem dX10_film_88 : decode cX10_film 88 = .ok (.getfield 42, 3) := by decide +kernel
theorem dX10_film_91 : decode cX10_film 91 = .ok (.getfield 163, 3) := by decide +kernel
theorem dX10_film_94 : decode cX10_film 94 = .ok (.ireturn, 1) := by decide +kernel
set_option maxRecDepth 20000 in
theorem ggX10_sheet_X10_isRow : GoodIn wsX10_sheet wsX10_isRow := goodIn_r _ [5, 6, 7, 4, 8] (by decide +kernel) (by decide +kernel)
set_option maxRecDepth 20000 in
theorem gX10_sheet_X10_isRow : GoodIn wsX10_sheet (va_wsS RX10 269 yX10_isRow wsX10_isRow) := goodIn_app (goodIn_of _ (by decide +kernel)) ggX10_sheet_X10_isRow
set_option maxRecDepth 20000 in
theorem ggX10_sheet_X7_renew : GoodIn wsX10_sheet wsX7_renew := goodIn_r _ [13, 14, 15, 16, 17, 34, 35, 36, 37] (by decide +kernel) (by decide +kernel)
set_option maxRecDepth 20000 in
theorem gX10_sheet_X7_renew : GoodIn wsX10_sheet (wsV RX10 288 RX7 yX7_renew wsX7_renew) := goodIn_app (goodIn_of _ (by decide +kernel)) ggX10_sheet_X7_renew
theorem dX10_sheet_0 : decode cX10_sheet 0 = .ok (.iload_n 1, 1) := by decide +kernel
theorem dX10_sheet_1 : decode cX10_sheet 1 = .ok (.iload_n 2, 1) := by decide +kernel
theorem dX10_sheet_2 : decode cX10_sheet 2 = .ok (.invokestatic 269, 3) := by decide +kernel
theorem dX10_sheet_5 : decode cX10_sheet 5 = .ok (.ifCond .eq 9, 3) := by decide +kernel
theorem dX10_sheet_8 : decode cX10_sheet 8 = .ok (.iload_n 3, 1) := by decide +kernel
theorem dX10_sheet_9 : decode cX10_sheet 9 = .ok (.bipush 24, 2) := by decide +kernel
theorem dX10_sheet_11 : decode cX10_sheet 11 = .ok (.if_icmp .le 5, 3) := by decide +kernel
theorem dX10_sheet_14 : decode cX10_sheet 14 = .ok (.iconst (-1), 1) := by decide +kernel
theorem dX10_sheet_15 : decode cX10_sheet 15 = .ok (.ireturn, 1) := by decide +kernel
theorem dX10_sheet_16 : decode cX10_sheet 16 = .ok (.iload_n 3, 1) := by decide +kernel
theorem dX10_sheet_17 : decode cX10_sheet 17 = .ok (.ifCond .ge 6, 3) := by decide +kernel
theorem dX10_sheet_20 : decode cX10_sheet 20 = .ok (.bipush (-14), 2) := by decide +kernel
theorem dX10_sheet_22 : decode cX10_sheet 22 = .ok (.ireturn, 1) := by decide +kernel
theorem dX10_sheet_23 : decode cX10_sheet 23 = .ok (.aload_n 0, 1) := by decide +kernel
theorem dX10_sheet_24 : decode cX10_sheet 24 = .ok (.getfield 83, 3) := by decide +kernel
theorem dX10_sheet_27 : decode cX10_sheet 27 = .ok (.iload_n 1, 1) := by decide +kernel
theorem dX10_sheet_28 : decode cX10_sheet 28 = .ok (.aaload, 1) := by decide +kernel
theorem dX10_sheet_29 : decode cX10_sheet 29 = .ok (.iload_n 2, 1) := by decide +kernel
theorem dX10_sheet_30 : decode cX10_sheet 30 = .ok (.iload_n 3, 1) := by decide +kernel
theorem dX10_sheet_31 : decode cX10_sheet 31 = .ok (.invokevirtual 288, 3) := by decide +kernel
theorem dX10_sheet_34 : decode cX10_sheet 34 = .ok (.iload_n 3, 1) := by decide +kernel
theorem dX10_sheet_35 : decode cX10_sheet 35 = .ok (.ireturn, 1) := by decide +kernel
set_option maxRecDepth 20000 in
theorem ggX10_drop_X10_within : GoodIn wsX10_drop wsX10_within := goodIn_r _ [7] (by decide +kernel) (by decide +kernel)
set_option maxRecDepth 20000 in
theorem gX10_drop_X10_within : GoodIn wsX10_drop (va_wsS RX10 95 yX10_within wsX10_within) := goodIn_app (goodIn_of _ (by decide +kernel)) ggX10_drop_X10_within
theorem dX10_drop_0 : decode cX10_drop 0 = .ok (.iload_n 1, 1) := by decide +kernel
theorem dX10_drop_1 : decode cX10_drop 1 = .ok (.iconst 0, 1) := by decide +kernel
theorem dX10_drop_2 : decode cX10_drop 2 = .ok (.iconst 3, 1) := by decide +kernel
theorem dX10_drop_3 : decode cX10_drop 3 = .ok (.invokestatic 95, 3) := by decide +kernel
theorem dX10_drop_6 : decode cX10_drop 6 = .ok (.ifCond .ne 5, 3) := by decide +kernel
theorem dX10_drop_9 : decode cX10_drop 9 = .ok (.iconst (-1), 1) := by decide +kernel
theorem dX10_drop_10 : decode cX10_drop 10 = .ok (.ireturn, 1) := by decide +kernel
theorem dX10_drop_11 : decode cX10_drop 11 = .ok (.aload_n 0, 1) := by decide +kernel
theorem dX10_drop_12 : decode cX10_drop 12 = .ok (.getfield 83, 3) := by decide +kernel
theorem dX10_drop_15 : decode cX10_drop 15 = .ok (.iload_n 1, 1) := by decide +kernel
theorem dX10_drop_16 : decode cX10_drop 16 = .ok (.aaload, 1) := by decide +kernel
theorem dX10_drop_17 : decode cX10_drop 17 = .ok (.getfield 291, 3) := by decide +kernel
theorem dX10_drop_20 : decode cX10_drop 20 = .ok (.ifCond .ne 6, 3) := by decide +kernel
theorem dX10_drop_23 : decode cX10_drop 23 = .ok (.bipush (-11), 2) := by decide +kernel
theorem dX10_drop_25 : decode cX10_drop 25 = .ok (.ireturn, 1) := by decide +kernel
theorem dX10_drop_26 : decode cX10_drop 26 = .ok (.aload_n 0, 1) := by decide +kernel
theorem dX10_drop_27 : decode cX10_drop 27 = .ok (.getfield 83, 3) := by decide +kernel
theorem dX10_drop_30 : decode cX10_drop 30 = .ok (.iload_n 1, 1) := by decide +kernel
theorem dX10_drop_31 : decode cX10_drop 31 = .ok (.aaload, 1) := by decide +kernel
theorem dX10_drop_32 : decode cX10_drop 32 = .ok (.iconst 0, 1) := by decide +kernel
theorem dX10_drop_33 : decode cX10_drop 33 = .ok (.putfield 291, 3) := by decide +kernel
theorem dX10_drop_36 : decode cX10_drop 36 = .ok (.aload_n 0, 1) := by decide +kernel
theorem dX10_drop_37 : decode cX10_drop 37 = .ok (.getfield 83, 3) := by decide +kernel
theorem dX10_drop_40 : decode cX10_drop 40 = .ok (.iload_n 1, 1) := by decide +kernel
theorem dX10_drop_41 : decode cX10_drop 41 = .ok (.aaload, 1) := by decide +kernel
theorem dX10_drop_42 : decode cX10_drop 42 = .ok (.getfield 294, 3) := by decide +kernel
theorem dX10_drop_45 : decode cX10_drop 45 = .ok (.ireturn, 1) := by decide +kernel
set_option maxRecDepth 20000 in
theorem ggX10_item_X10_isRow : GoodIn wsX10_item wsX10_isRow := goodIn_r _ [5, 6, 7, 4, 8] (by decide +kernel) (by decide +kernel)
set_option maxRecDepth 20000 in
theorem gX10_item_X10_isRow : GoodIn wsX10_item (va_wsS RX10 269 yX10_isRow wsX10_isRow) := goodIn_app (goodIn_of _ (by decide +kernel)) ggX10_item_X10_isRow
set_option maxRecDepth 20000 in
theorem ggX10_item_X7_refusal : GoodIn wsX10_item wsX7_refusal := goodIn_r _ [13, 14, 15, 16, 17, 18, 12, 19, 20, 42, 43, 44, 45] (by decide +kernel) (by decide +kernel)
set_option maxRecDepth 20000 in
theorem gX10_item_X7_refusal : GoodIn wsX10_item (wsV RX10 273 RX7 yX7_refusal wsX7_refusal) := goodIn_app (goodIn_of _ (by decide +kernel)) ggX10_item_X7_refusal
set_option maxRecDepth 20000 in
theorem ggX10_item_X7_put : GoodIn wsX10_item wsX7_put := goodIn_r _ [24, 25, 15, 42, 43, 44, 45] (by decide +kernel) (by decide +kernel)
set_option maxRecDepth 20000 in
theorem gX10_item_X7_put : GoodIn wsX10_item (wsV RX10 284 RX7 yX7_put wsX7_put) := goodIn_app (goodIn_of _ (by decide +kernel)) ggX10_item_X7_put
theorem dX10_item_0 : decode cX10_item 0 = .ok (.iload_n 1, 1) := by decide +kernel
theorem dX10_item_1 : decode cX10_item 1 = .ok (.iload_n 2, 1) := by decide +kernel
theorem dX10_item_2 : decode cX10_item 2 = .ok (.invokestatic 269, 3) := by decide +kernel
theorem dX10_item_5 : decode cX10_item 5 = .ok (.ifCond .ne 5, 3) := by decide +kernel
theorem dX10_item_8 : decode cX10_item 8 = .ok (.iconst (-1), 1) := by decide +kernel
theorem dX10_item_9 : decode cX10_item 9 = .ok (.ireturn, 1) := by decide +kernel
theorem dX10_item_10 : decode cX10_item 10 = .ok (.aload_n 0, 1) := by decide +kernel
theorem dX10_item_11 : decode cX10_item 11 = .ok (.getfield 83, 3) := by decide +kernel
theorem dX10_item_14 : decode cX10_item 14 = .ok (.iload_n 1, 1) := by decide +kernel
theorem dX10_item_15 : decode cX10_item 15 = .ok (.aaload, 1) := by decide +kernel
theorem dX10_item_16 : decode cX10_item 16 = .ok (.iload_n 2, 1) := by decide +kernel
theorem dX10_item_17 : decode cX10_item 17 = .ok (.iload_n 3, 1) := by decide +kernel
theorem dX10_item_18 : decode cX10_item 18 = .ok (.iconst 1, 1) := by decide +kernel
theorem dX10_item_19 : decode cX10_item 19 = .ok (.invokevirtual 273, 3) := by decide +kernel
theorem dX10_item_22 : decode cX10_item 22 = .ok (.istore 6, 2) := by decide +kernel
theorem dX10_item_24 : decode cX10_item 24 = .ok (.iload 6, 2) := by decide +kernel
theorem dX10_item_26 : decode cX10_item 26 = .ok (.ifCond .eq 6, 3) := by decide +kernel
theorem dX10_item_29 : decode cX10_item 29 = .ok (.iload 6, 2) := by decide +kernel
theorem dX10_item_31 : decode cX10_item 31 = .ok (.ireturn, 1) := by decide +kernel
theorem dX10_item_32 : decode cX10_item 32 = .ok (.aload_n 0, 1) := by decide +kernel
theorem dX10_item_33 : decode cX10_item 33 = .ok (.getfield 83, 3) := by decide +kernel
theorem dX10_item_36 : decode cX10_item 36 = .ok (.iload_n 1, 1) := by decide +kernel
theorem dX10_item_37 : decode cX10_item 37 = .ok (.aaload, 1) := by decide +kernel
theorem dX10_item_38 : decode cX10_item 38 = .ok (.iload_n 3, 1) := by decide +kernel
theorem dX10_item_39 : decode cX10_item 39 = .ok (.lload 4, 2) := by decide +kernel
theorem dX10_item_41 : decode cX10_item 41 = .ok (.invokevirtual 284, 3) := by decide +kernel
theorem dX10_item_44 : decode cX10_item 44 = .ok (.iconst 1, 1) := by decide +kernel
theorem dX10_item_45 : decode cX10_item 45 = .ok (.ireturn, 1) := by decide +kernel
set_option maxRecDepth 20000 in
theorem ggX10_copy_X10_within : GoodIn wsX10_copy wsX10_within := goodIn_r _ [12] (by decide +kernel) (by decide +kernel)
set_option maxRecDepth 20000 in
theorem gX10_copy_X10_within : GoodIn wsX10_copy (va_wsS RX10 95 yX10_within wsX10_within) := goodIn_app (goodIn_of _ (by decide +kernel)) ggX10_copy_X10_within
set_option maxRecDepth 20000 in
theorem ggX10_copy_X7_spans : GoodIn wsX10_copy wsX7_spans := goodIn_r _ [17, 18, 35, 36, 37, 38] (by decide +kernel) (by decide +kernel)
set_option maxRecDepth 20000 in
theorem gX10_copy_X7_spans : GoodIn wsX10_copy (wsV RX10 298 RX7 yX7_spans wsX7_spans) := goodIn_app (goodIn_of _ (by decide +kernel)) ggX10_copy_X7_spans
theorem dX10_copy_0 : decode cX10_copy 0 = .ok (.iload_n 1, 1) := by decide +kernel
theorem dX10_copy_1 : decode cX10_copy 1 = .ok (.iconst 0, 1) := by decide +kernel
theorem dX10_copy_2 : decode cX10_copy 2 = .ok (.iconst 3, 1) := by decide +kernel
theorem dX10_copy_3 : decode cX10_copy 3 = .ok (.invokestatic 95, 3) := by decide +kernel
theorem dX10_copy_6 : decode cX10_copy 6 = .ok (.ifCond .eq 12, 3) := by decide +kernel
theorem dX10_copy_9 : decode cX10_copy 9 = .ok (.iload_n 3, 1) := by decide +kernel
theorem dX10_copy_10 : decode cX10_copy 10 = .ok (.iconst 0, 1) := by decide +kernel
theorem dX10_copy_11 : decode cX10_copy 11 = .ok (.iconst 3, 1) := by decide +kernel
theorem dX10_copy_12 : decode cX10_copy 12 = .ok (.invokestatic 95, 3) := by decide +kernel
theorem dX10_copy_15 : decode cX10_copy 15 = .ok (.ifCond .ne 5, 3) := by decide +kernel
theorem dX10_copy_18 : decode cX10_copy 18 = .ok (.iconst (-1), 1) := by decide +kernel
theorem dX10_copy_19 : decode cX10_copy 19 = .ok (.ireturn, 1) := by decide +kernel
theorem dX10_copy_20 : decode cX10_copy 20 = .ok (.aload_n 0, 1) := by decide +kernel
theorem dX10_copy_21 : decode cX10_copy 21 = .ok (.getfield 83, 3) := by decide +kernel
theorem dX10_copy_24 : decode cX10_copy 24 = .ok (.iload_n 1, 1) := by decide +kernel
theorem dX10_copy_25 : decode cX10_copy 25 = .ok (.aaload, 1) := by decide +kernel
theorem dX10_copy_26 : decode cX10_copy 26 = .ok (.astore 6, 2) := by decide +kernel
theorem dX10_copy_28 : decode cX10_copy 28 = .ok (.aload_n 0, 1) := by decide +kernel
theorem dX10_copy_29 : decode cX10_copy 29 = .ok (.getfield 83, 3) := by decide +kernel
theorem dX10_copy_32 : decode cX10_copy 32 = .ok (.iload_n 3, 1) := by decide +kernel
theorem dX10_copy_33 : decode cX10_copy 33 = .ok (.aaload, 1) := by decide +kernel
theorem dX10_copy_34 : decode cX10_copy 34 = .ok (.astore 7, 2) := by decide +kernel
theorem dX10_copy_36 : decode cX10_copy 36 = .ok (.aload 6, 2) := by decide +kernel
theorem dX10_copy_38 : decode cX10_copy 38 = .ok (.getfield 291, 3) := by decide +kernel
theorem dX10_copy_41 : decode cX10_copy 41 = .ok (.ifCond .eq 11, 3) := by decide +kernel
theorem dX10_copy_44 : decode cX10_copy 44 = .ok (.aload 7, 2) := by decide +kernel
theorem dX10_copy_46 : decode cX10_copy 46 = .ok (.getfield 291, 3) := by decide +kernel
theorem dX10_copy_49 : decode cX10_copy 49 = .ok (.ifCond .ne 6, 3) := by decide +kernel
theorem dX10_copy_52 : decode cX10_copy 52 = .ok (.bipush (-11), 2) := by decide +kernel
theorem dX10_copy_54 : decode cX10_copy 54 = .ok (.ireturn, 1) := by decide +kernel
theorem dX10_copy_55 : decode cX10_copy 55 = .ok (.aload 6, 2) := by decide +kernel
theorem dX10_copy_57 : decode cX10_copy 57 = .ok (.getfield 295, 3) := by decide +kernel
theorem dX10_copy_60 : decode cX10_copy 60 = .ok (.aload 7, 2) := by decide +kernel
theorem dX10_copy_62 : decode cX10_copy 62 = .ok (.getfield 295, 3) := by decide +kernel
theorem dX10_copy_65 : decode cX10_copy 65 = .ok (.if_icmp .eq 6, 3) := by decide +kernel
theorem dX10_copy_68 : decode cX10_copy 68 = .ok (.bipush (-12), 2) := by decide +kernel
theorem dX10_copy_70 : decode cX10_copy 70 = .ok (.ireturn, 1) := by decide +kernel
theorem dX10_copy_71 : decode cX10_copy 71 = .ok (.aload 6, 2) := by decide +kernel
theorem dX10_copy_73 : decode cX10_copy 73 = .ok (.iload_n 2, 1) := by decide +kernel
theorem dX10_copy_74 : decode cX10_copy 74 = .ok (.iload 5, 2) := by decide +kernel
theorem dX10_copy_76 : decode cX10_copy 76 = .ok (.invokevirtual 298, 3) := by decide +kernel
theorem dX10_copy_79 : decode cX10_copy 79 = .ok (.ifCond .eq 15, 3) := by decide +kernel
theorem dX10_copy_82 : decode cX10_copy 82 = .ok (.aload 7, 2) := by decide +kernel
theorem dX10_copy_84 : decode cX10_copy 84 = .ok (.iload 4, 2) := by decide +kernel
theorem dX10_copy_86 : decode cX10_copy 86 = .ok (.iload 5, 2) := by decide +kernel
theorem dX10_copy_88 : decode cX10_copy 88 = .ok (.invokevirtual 298, 3) := by decide +kernel
theorem dX10_copy_91 : decode cX10_copy 91 = .ok (.ifCond .ne 6, 3) := by decide +kernel
theorem dX10_copy_94 : decode cX10_copy 94 = .ok (.bipush (-13), 2) := by decide +kernel
theorem dX10_copy_96 : decode cX10_copy 96 = .ok (.ireturn, 1) := by decide +kernel
theorem dX10_copy_97 : decode cX10_copy 97 = .ok (.aload 6, 2) := by decide +kernel
theorem dX10_copy_99 : decode cX10_copy 99 = .ok (.getfield 301, 3) := by decide +kernel
theorem dX10_copy_102 : decode cX10_copy 102 = .ok (.iload_n 2, 1) := by decide +kernel
theorem dX10_copy_103 : decode cX10_copy 103 = .ok (.aload 7, 2) := by decide +kernel
theorem dX10_copy_105 : decode cX10_copy 105 = .ok (.getfield 301, 3) := by decide +kernel
theorem dX10_copy_108 : decode cX10_copy 108 = .ok (.iload 4, 2) := by decide +kernel
theorem dX10_copy_110 : decode cX10_copy 110 = .ok (.iload 5, 2) := by decide +kernel
theorem dX10_copy_112 : decode cX10_copy 112 = .ok (.invokestatic 304, 3) := by decide +kernel
theorem dX10_copy_115 : decode cX10_copy 115 = .ok (.iload 5, 2) := by decide +kernel
theorem dX10_copy_117 : decode cX10_copy 117 = .ok (.ireturn, 1) := by decide +kernel
theorem dX10_within_0 : decode cX10_within 0 = .ok (.iload_n 0, 1) := by decide +kernel
theorem dX10_within_1 : decode cX10_within 1 = .ok (.iload_n 1, 1) := by decide +kernel
theorem dX10_within_2 : decode cX10_within 2 = .ok (.if_icmp .lt 12, 3) := by decide +kernel
theorem dX10_within_5 : decode cX10_within 5 = .ok (.iload_n 0, 1) := by decide +kernel
theorem dX10_within_6 : decode cX10_within 6 = .ok (.iload_n 2, 1) := by decide +kernel
theorem dX10_within_7 : decode cX10_within 7 = .ok (.if_icmp .gt 7, 3) := by decide +kernel
theorem dX10_within_10 : decode cX10_within 10 = .ok (.iconst 1, 1) := by decide +kernel
theorem dX10_within_11 : decode cX10_within 11 = .ok (.goto 4, 3) := by decide +kernel
theorem dX10_within_14 : decode cX10_within 14 = .ok (.iconst 0, 1) := by decide +kernel
theorem dX10_within_15 : decode cX10_within 15 = .ok (.ireturn, 1) := by decide +kernel
set_option maxRecDepth 20000 in
theorem ggX10_isRow_X10_within : GoodIn wsX10_isRow wsX10_within := goodIn_r _ [4] (by decide +kernel) (by decide +kernel)
set_option maxRecDepth 20000 in
theorem gX10_isRow_X10_within : GoodIn wsX10_isRow (va_wsS RX10 95 yX10_within wsX10_within) := goodIn_app (goodIn_of _ (by decide +kernel)) ggX10_isRow_X10_within
theorem dX10_isRow_0 : decode cX10_isRow 0 = .ok (.iload_n 0, 1) := by decide +kernel
theorem dX10_isRow_1 : decode cX10_isRow 1 = .ok (.iconst 0, 1) := by decide +kernel
theorem dX10_isRow_2 : decode cX10_isRow 2 = .ok (.iconst 3, 1) := by decide +kernel
theorem dX10_isRow_3 : decode cX10_isRow 3 = .ok (.invokestatic 95, 3) := by decide +kernel
theorem dX10_isRow_6 : decode cX10_isRow 6 = .ok (.ifCond .eq 16, 3) := by decide +kernel
theorem dX10_isRow_9 : decode cX10_isRow 9 = .ok (.iload_n 1, 1) := by decide +kernel
theorem dX10_isRow_10 : decode cX10_isRow 10 = .ok (.iconst 0, 1) := by decide +kernel
theorem dX10_isRow_11 : decode cX10_isRow 11 = .ok (.iconst 2, 1) := by decide +kernel
theorem dX10_isRow_12 : decode cX10_isRow 12 = .ok (.invokestatic 95, 3) := by decide +kernel
theorem dX10_isRow_15 : decode cX10_isRow 15 = .ok (.ifCond .eq 7, 3) := by decide +kernel
theorem dX10_isRow_18 : decode cX10_isRow 18 = .ok (.iconst 1, 1) := by decide +kernel
theorem dX10_isRow_19 : decode cX10_isRow 19 = .ok (.goto 4, 3) := by decide +kernel
theorem dX10_isRow_22 : decode cX10_isRow 22 = .ok (.iconst 0, 1) := by decide +kernel
theorem dX10_isRow_23 : decode cX10_isRow 23 = .ok (.ireturn, 1) := by decide +kernel
set_option maxRecDepth 20000 in
theorem ggX10_divide_X5_split : GoodIn wsX10_divide wsX5_split := goodIn_r _ [9, 10, 11, 12, 13, 14, 15, 16, 17, 18, 19, 20, 21, 8, 22, 23, 24, 25, 26, 27, 28, 29, 30, 31, 32, 33, 34, 35, 58, 59, 60, 61, 52, 53, 54, 55, 56, 57] (by decide +kernel) (by decide +kernel)
set_option maxRecDepth 20000 in
theorem gX10_divide_X5_split : GoodIn wsX10_divide (wsV RX10 241 RX5 yX5_split wsX5_split) := goodIn_app (goodIn_of _ (by decide +kernel)) ggX10_divide_X5_split
theorem dX10_divide_0 : decode cX10_divide 0 = .ok (.aload_n 0, 1) := by decide +kernel
theorem dX10_divide_1 : decode cX10_divide 1 = .ok (.getfield 42, 3) := by decide +kernel
theorem dX10_divide_4 : decode cX10_divide 4 = .ok (.aload_n 0, 1) := by decide +kernel
theorem dX10_divide_5 : decode cX10_divide 5 = .ok (.getfield 12, 3) := by decide +kernel
theorem dX10_divide_8 : decode cX10_divide 8 = .ok (.aload_n 0, 1) := by decide +kernel
theorem dX10_divide_9 : decode cX10_divide 9 = .ok (.getfield 12, 3) := by decide +kernel
theorem dX10_divide_12 : decode cX10_divide 12 = .ok (.getfield 177, 3) := by decide +kernel
theorem dX10_divide_15 : decode cX10_divide 15 = .ok (.aload_n 0, 1) := by decide +kernel
theorem dX10_divide_16 : decode cX10_divide 16 = .ok (.getfield 12, 3) := by decide +kernel
theorem dX10_divide_19 : decode cX10_divide 19 = .ok (.getfield 103, 3) := by decide +kernel
theorem dX10_divide_22 : decode cX10_divide 22 = .ok (.invokevirtual 241, 3) := by decide +kernel
theorem dX10_divide_25 : decode cX10_divide 25 = .ok (.return_, 1) := by decide +kernel
set_option maxRecDepth 20000 in
theorem ggX10_daysPaid_X10_divide : GoodIn wsX10_daysPaid wsX10_divide := goodIn_r _ [9, 2, 10, 11, 12, 13, 14, 15, 16, 17, 18, 19, 20, 21, 22, 23, 24, 25, 26, 27, 28, 29, 30, 31, 32, 33, 34, 35, 36, 37, 38, 39, 40, 41, 42, 43, 69, 70, 71, 72, 73, 74, 75, 76, 77, 78, 79, 80, 81, 82, 83, 84, 89, 90, 91, 92, 93, 94, 95, 96, 97, 98] (by decide +kernel) (by decide +kernel)
set_option maxRecDepth 20000 in
theorem gX10_daysPaid_X10_divide : GoodIn wsX10_daysPaid (wsV RX10 160 RX10 yX10_divide wsX10_divide) := goodIn_app (goodIn_of _ (by decide +kernel)) ggX10_daysPaid_X10_divide
set_option maxRecDepth 20000 in
theorem ggX10_daysPaid_X8_load : GoodIn wsX10_daysPaid wsX8_load := goodIn_r _ [48, 49, 50, 51, 52, 53, 54, 55, 16, 56, 18, 33, 57, 58, 59, 47, 60, 99, 100, 95, 96, 97, 98] (by decide +kernel) (by decide +kernel)
set_option maxRecDepth 20000 in
theorem gX10_daysPaid_X8_load : GoodIn wsX10_daysPaid (wsV RX10 187 RX8 yX8_load wsX8_load) := goodIn_app (goodIn_of _ (by decide +kernel)) ggX10_daysPaid_X8_load
set_option maxRecDepth 20000 in
theorem ggX10_daysPaid_X8_daysInRow : GoodIn wsX10_daysPaid wsX8_daysInRow := goodIn_r _ [64, 65, 66, 67, 47, 68, 49, 50, 99, 100] (by decide +kernel) (by decide +kernel)
set_option maxRecDepth 20000 in
theorem gX10_daysPaid_X8_daysInRow : GoodIn wsX10_daysPaid (wsV RX10 310 RX8 yX8_daysInRow wsX8_daysInRow) := goodIn_app (goodIn_of _ (by decide +kernel)) ggX10_daysPaid_X8_daysInRow
theorem dX10_daysPaid_0 : decode cX10_daysPaid 0 = .ok (.aload_n 0, 1) := by decide +kernel
theorem dX10_daysPaid_1 : decode cX10_daysPaid 1 = .ok (.invokevirtual 160, 3) := by decide +kernel
theorem dX10_daysPaid_4 : decode cX10_daysPaid 4 = .ok (.aload_n 0, 1) := by decide +kernel
theorem dX10_daysPaid_5 : decode cX10_daysPaid 5 = .ok (.getfield 49, 3) := by decide +kernel
theorem dX10_daysPaid_8 : decode cX10_daysPaid 8 = .ok (.aload_n 0, 1) := by decide +kernel
theorem dX10_daysPaid_9 : decode cX10_daysPaid 9 = .ok (.getfield 42, 3) := by decide +kernel
theorem dX10_daysPaid_12 : decode cX10_daysPaid 12 = .ok (.invokevirtual 187, 3) := by decide +kernel
theorem dX10_daysPaid_15 : decode cX10_daysPaid 15 = .ok (.aload_n 0, 1) := by decide +kernel
theorem dX10_daysPaid_16 : decode cX10_daysPaid 16 = .ok (.getfield 49, 3) := by decide +kernel
theorem dX10_daysPaid_19 : decode cX10_daysPaid 19 = .ok (.aload_n 0, 1) := by decide +kernel
theorem dX10_daysPaid_20 : decode cX10_daysPaid 20 = .ok (.getfield 19, 3) := by decide +kernel
theorem dX10_daysPaid_23 : decode cX10_daysPaid 23 = .ok (.getfield 184, 3) := by decide +kernel
theorem dX10_daysPaid_26 : decode cX10_daysPaid 26 = .ok (.invokevirtual 310, 3) := by decide +kernel
theorem dX10_daysPaid_29 : decode cX10_daysPaid 29 = .ok (.ireturn, 1) := by decide +kernel
set_option maxRecDepth 20000 in
theorem ggX10_findBest_X1_whole : GoodIn wsX10_findBest wsX1_whole := goodIn_r _ [16, 17, 18, 134, 135, 136, 137, 138, 139] (by decide +kernel) (by decide +kernel)
set_option maxRecDepth 20000 in
theorem gX10_findBest_X1_whole : GoodIn wsX10_findBest (wsV RX10 216 RX1 yX1_whole wsX1_whole) := goodIn_app (goodIn_of _ (by decide +kernel)) ggX10_findBest_X1_whole
set_option maxRecDepth 20000 in
theorem ggX10_findBest_X3_coveredBy : GoodIn wsX10_findBest wsX3_coveredBy := goodIn_r _ [23, 24, 130, 131, 132, 133] (by decide +kernel) (by decide +kernel)
set_option maxRecDepth 20000 in
theorem gX10_findBest_X3_coveredBy : GoodIn wsX10_findBest (wsV RX10 217 RX3 yX3_coveredBy wsX3_coveredBy) := goodIn_app (goodIn_of _ (by decide +kernel)) ggX10_findBest_X3_coveredBy
set_option maxRecDepth 20000 in
theorem ggX10_findBest_X1_notches : GoodIn wsX10_findBest wsX1_notches := goodIn_r _ [28, 18, 29, 30, 31, 15, 32, 33, 134, 135, 136, 137, 138, 139] (by decide +kernel) (by decide +kernel)
set_option maxRecDepth 20000 in
theorem gX10_findBest_X1_notches : GoodIn wsX10_findBest (wsV RX10 156 RX1 yX1_notches wsX1_notches) := goodIn_app (goodIn_of _ (by decide +kernel)) ggX10_findBest_X1_notches
set_option maxRecDepth 20000 in
theorem ggX10_findBest_X2_begin : GoodIn wsX10_findBest wsX2_begin := goodIn_r _ [38, 39, 40, 41, 127, 128, 129] (by decide +kernel) (by decide +kernel)
set_option maxRecDepth 20000 in
theorem gX10_findBest_X2_begin : GoodIn wsX10_findBest (wsV RX10 317 RX2 yX2_begin wsX2_begin) := goodIn_app (goodIn_of _ (by decide +kernel)) ggX10_findBest_X2_begin
set_option maxRecDepth 20000 in
theorem ggX10_findBest_X5_split : GoodIn wsX10_findBest wsX5_split := goodIn_r _ [46, 47, 48, 49, 50, 30, 31, 15, 32, 33, 51, 52, 53, 45, 54, 55, 56, 57, 58, 59, 60, 61, 62, 63, 64, 65, 66, 67, 140, 141, 142, 143, 134, 135, 136, 137, 138, 139] (by decide +kernel) (by decide +kernel)
set_option maxRecDepth 20000 in
theorem gX10_findBest_X5_split : GoodIn wsX10_findBest (wsV RX10 241 RX5 yX5_split wsX5_split) := goodIn_app (goodIn_of _ (by decide +kernel)) ggX10_findBest_X5_split
set_option maxRecDepth 20000 in
theorem ggX10_findBest_X8_load : GoodIn wsX10_findBest wsX8_load := goodIn_r _ [72, 73, 74, 75, 76, 77, 78, 79, 45, 80, 47, 57, 81, 82, 83, 71, 84, 144, 145, 140, 141, 142, 143] (by decide +kernel) (by decide +kernel)
set_option maxRecDepth 20000 in
theorem gX10_findBest_X8_load : GoodIn wsX10_findBest (wsV RX10 187 RX8 yX8_load wsX8_load) := goodIn_app (goodIn_of _ (by decide +kernel)) ggX10_findBest_X8_load
set_option maxRecDepth 20000 in
theorem ggX10_findBest_X8_daysInRow : GoodIn wsX10_findBest wsX8_daysInRow := goodIn_r _ [88, 89, 90, 91, 71, 92, 73, 74, 144, 145] (by decide +kernel) (by decide +kernel)
set_option maxRecDepth 20000 in
theorem gX10_findBest_X8_daysInRow : GoodIn wsX10_findBest (wsV RX10 310 RX8 yX8_daysInRow wsX8_daysInRow) := goodIn_app (goodIn_of _ (by decide +kernel)) ggX10_findBest_X8_daysInRow
set_option maxRecDepth 20000 in
theorem ggX10_findBest_X0_offer : GoodIn wsX10_findBest wsX0_offer := goodIn_r _ [97, 98, 99, 100, 101, 102, 103, 124, 125, 126] (by decide +kernel) (by decide +kernel)
set_option maxRecDepth 20000 in
theorem gX10_findBest_X0_offer : GoodIn wsX10_findBest (wsV RX10 322 RX0 yX0_offer wsX0_offer) := goodIn_app (goodIn_of _ (by decide +kernel)) ggX10_findBest_X0_offer
set_option maxRecDepth 20000 in
theorem ggX10_findBest_X2_step : GoodIn wsX10_findBest wsX2_step := goodIn_r _ [107, 39, 41, 40, 127, 128, 129] (by decide +kernel) (by decide +kernel)
set_option maxRecDepth 20000 in
theorem gX10_findBest_X2_step : GoodIn wsX10_findBest (wsV RX10 326 RX2 yX2_step wsX2_step) := goodIn_app (goodIn_of _ (by decide +kernel)) ggX10_findBest_X2_step
theorem dX10_findBest_0 : decode cX10_findBest 0 = .ok (.aload_n 0, 1) := by decide +kernel
theorem dX10_findBest_1 : decode cX10_findBest 1 = .ok (.getfield 70, 3) := by decide +kernel
theorem dX10_findBest_4 : decode cX10_findBest 4 = .ok (.getfield 313, 3) := by decide +kernel
theorem dX10_findBest_7 : decode cX10_findBest 7 = .ok (.iload_n 1, 1) := by decide +kernel
theorem dX10_findBest_8 : decode cX10_findBest 8 = .ok (.baload, 1) := by decide +kernel
theorem dX10_findBest_9 : decode cX10_findBest 9 = .ok (.ifCond .eq 4, 3) := by decide +kernel
theorem dX10_findBest_12 : decode cX10_findBest 12 = .ok (.return_, 1) := by decide +kernel
theorem dX10_findBest_13 : decode cX10_findBest 13 = .ok (.aload_n 0, 1) := by decide +kernel
theorem dX10_findBest_14 : decode cX10_findBest 14 = .ok (.getfield 70, 3) := by decide +kernel
theorem dX10_findBest_17 : decode cX10_findBest 17 = .ok (.getfield 209, 3) := by decide +kernel
theorem dX10_findBest_20 : decode cX10_findBest 20 = .ok (.iload_n 1, 1) := by decide +kernel
theorem dX10_findBest_21 : decode cX10_findBest 21 = .ok (.bipush (-4), 2) := by decide +kernel
theorem dX10_findBest_23 : decode cX10_findBest 23 = .ok (.iastore, 1) := by decide +kernel
theorem dX10_findBest_24 : decode cX10_findBest 24 = .ok (.aload_n 0, 1) := by decide +kernel
theorem dX10_findBest_25 : decode cX10_findBest 25 = .ok (.getfield 19, 3) := by decide +kernel
theorem dX10_findBest_28 : decode cX10_findBest 28 = .ok (.aload_n 0, 1) := by decide +kernel
theorem dX10_findBest_29 : decode cX10_findBest 29 = .ok (.getfield 12, 3) := by decide +kernel
theorem dX10_findBest_32 : decode cX10_findBest 32 = .ok (.invokevirtual 216, 3) := by decide +kernel
theorem dX10_findBest_35 : decode cX10_findBest 35 = .ok (.invokevirtual 217, 3) := by decide +kernel
theorem dX10_findBest_38 : decode cX10_findBest 38 = .ok (.istore_n 2, 1) := by decide +kernel
theorem dX10_findBest_39 : decode cX10_findBest 39 = .ok (.aload_n 0, 1) := by decide +kernel
theorem dX10_findBest_40 : decode cX10_findBest 40 = .ok (.getfield 63, 3) := by decide +kernel
theorem dX10_findBest_43 : decode cX10_findBest 43 = .ok (.iload_n 1, 1) := by decide +kernel
theorem dX10_findBest_44 : decode cX10_findBest 44 = .ok (.aload_n 0, 1) := by decide +kernel
theorem dX10_findBest_45 : decode cX10_findBest 45 = .ok (.getfield 12, 3) := by decide +kernel
theorem dX10_findBest_48 : decode cX10_findBest 48 = .ok (.invokevirtual 156, 3) := by decide +kernel
theorem dX10_findBest_51 : decode cX10_findBest 51 = .ok (.invokevirtual 317, 3) := by decide +kernel
theorem dX10_findBest_54 : decode cX10_findBest 54 = .ok (.istore_n 3, 1) := by decide +kernel
theorem dX10_findBest_55 : decode cX10_findBest 55 = .ok (.iconst 0, 1) := by decide +kernel
theorem dX10_findBest_56 : decode cX10_findBest 56 = .ok (.istore 4, 2) := by decide +kernel
theorem dX10_findBest_58 : decode cX10_findBest 58 = .ok (.iload 4, 2) := by decide +kernel
theorem dX10_findBest_60 : decode cX10_findBest 60 = .ok (.ldc_w 320, 3) := by decide +kernel
theorem dX10_findBest_63 : decode cX10_findBest 63 = .ok (.if_icmp .ge 101, 3) := by decide +kernel
theorem dX10_findBest_66 : decode cX10_findBest 66 = .ok (.iload_n 3, 1) := by decide +kernel
theorem dX10_findBest_67 : decode cX10_findBest 67 = .ok (.ifCond .eq 97, 3) := by decide +kernel
theorem dX10_findBest_70 : decode cX10_findBest 70 = .ok (.aload_n 0, 1) := by decide +kernel
theorem dX10_findBest_71 : decode cX10_findBest 71 = .ok (.getfield 42, 3) := by decide +kernel
theorem dX10_findBest_74 : decode cX10_findBest 74 = .ok (.aload_n 0, 1) := by decide +kernel
theorem dX10_findBest_75 : decode cX10_findBest 75 = .ok (.getfield 12, 3) := by decide +kernel
theorem dX10_findBest_78 : decode cX10_findBest 78 = .ok (.aload_n 0, 1) := by decide +kernel
theorem dX10_findBest_79 : decode cX10_findBest 79 = .ok (.getfield 63, 3) := by decide +kernel
theorem dX10_findBest_82 : decode cX10_findBest 82 = .ok (.getfield 321, 3) := by decide +kernel
theorem dX10_findBest_85 : decode cX10_findBest 85 = .ok (.iload_n 1, 1) := by decide +kernel
theorem dX10_findBest_86 : decode cX10_findBest 86 = .ok (.invokevirtual 241, 3) := by decide +kernel
theorem dX10_findBest_89 : decode cX10_findBest 89 = .ok (.aload_n 0, 1) := by decide +kernel
theorem dX10_findBest_90 : decode cX10_findBest 90 = .ok (.getfield 49, 3) := by decide +kernel
theorem dX10_findBest_93 : decode cX10_findBest 93 = .ok (.aload_n 0, 1) := by decide +kernel
theorem dX10_findBest_94 : decode cX10_findBest 94 = .ok (.getfield 42, 3) := by decide +kernel
theorem dX10_findBest_97 : decode cX10_findBest 97 = .ok (.invokevirtual 187, 3) := by decide +kernel
theorem dX10_findBest_100 : decode cX10_findBest 100 = .ok (.aload_n 0, 1) := by decide +kernel
theorem dX10_findBest_101 : decode cX10_findBest 101 = .ok (.getfield 70, 3) := by decide +kernel
theorem dX10_findBest_104 : decode cX10_findBest 104 = .ok (.iload_n 1, 1) := by decide +kernel
theorem dX10_findBest_105 : decode cX10_findBest 105 = .ok (.aload_n 0, 1) := by decide +kernel
theorem dX10_findBest_106 : decode cX10_findBest 106 = .ok (.getfield 49, 3) := by decide +kernel
theorem dX10_findBest_109 : decode cX10_findBest 109 = .ok (.aload_n 0, 1) := by decide +kernel
theorem dX10_findBest_110 : decode cX10_findBest 110 = .ok (.getfield 19, 3) := by decide +kernel
theorem dX10_findBest_113 : decode cX10_findBest 113 = .ok (.getfield 184, 3) := by decide +kernel
theorem dX10_findBest_116 : decode cX10_findBest 116 = .ok (.invokevirtual 310, 3) := by decide +kernel
theorem dX10_findBest_119 : decode cX10_findBest 119 = .ok (.aload_n 0, 1) := by decide +kernel
theorem dX10_findBest_120 : decode cX10_findBest 120 = .ok (.getfield 63, 3) := by decide +kernel
theorem dX10_findBest_123 : decode cX10_findBest 123 = .ok (.getfield 321, 3) := by decide +kernel
theorem dX10_findBest_126 : decode cX10_findBest 126 = .ok (.invokevirtual 322, 3) := by decide +kernel
theorem dX10_findBest_129 : decode cX10_findBest 129 = .ok (.aload_n 0, 1) := by decide +kernel
theorem dX10_findBest_130 : decode cX10_findBest 130 = .ok (.getfield 70, 3) := by decide +kernel
theorem dX10_findBest_133 : decode cX10_findBest 133 = .ok (.getfield 209, 3) := by decide +kernel
theorem dX10_findBest_136 : decode cX10_findBest 136 = .ok (.iload_n 1, 1) := by decide +kernel
theorem dX10_findBest_137 : decode cX10_findBest 137 = .ok (.iaload, 1) := by decide +kernel
theorem dX10_findBest_138 : decode cX10_findBest 138 = .ok (.iload_n 2, 1) := by decide +kernel
theorem dX10_findBest_139 : decode cX10_findBest 139 = .ok (.if_icmp .ge 17, 3) := by decide +kernel
theorem dX10_findBest_142 : decode cX10_findBest 142 = .ok (.aload_n 0, 1) := by decide +kernel
theorem dX10_findBest_143 : decode cX10_findBest 143 = .ok (.getfield 63, 3) := by decide +kernel
theorem dX10_findBest_146 : decode cX10_findBest 146 = .ok (.invokevirtual 326, 3) := by decide +kernel
theorem dX10_findBest_149 : decode cX10_findBest 149 = .ok (.ifCond .eq 7, 3) := by decide +kernel
theorem dX10_findBest_152 : decode cX10_findBest 152 = .ok (.iconst 1, 1) := by decide +kernel
theorem dX10_findBest_153 : decode cX10_findBest 153 = .ok (.goto 4, 3) := by decide +kernel
theorem dX10_findBest_156 : decode cX10_findBest 156 = .ok (.iconst 0, 1) := by decide +kernel
theorem dX10_findBest_157 : decode cX10_findBest 157 = .ok (.istore_n 3, 1) := by decide +kernel
theorem dX10_findBest_158 : decode cX10_findBest 158 = .ok (.iinc 4 1, 3) := by decide +kernel
theorem dX10_findBest_161 : decode cX10_findBest 161 = .ok (.goto (-103), 3) := by decide +kernel
theorem dX10_findBest_164 : decode cX10_findBest 164 = .ok (.aload_n 0, 1) := by decide +kernel
theorem dX10_findBest_165 : decode cX10_findBest 165 = .ok (.getfield 70, 3) := by decide +kernel
theorem dX10_findBest_168 : decode cX10_findBest 168 = .ok (.getfield 313, 3) := by decide +kernel
theorem dX10_findBest_171 : decode cX10_findBest 171 = .ok (.iload_n 1, 1) := by decide +kernel
theorem dX10_findBest_172 : decode cX10_findBest 172 = .ok (.iconst 1, 1) := by decide +kernel
theorem dX10_findBest_173 : decode cX10_findBest 173 = .ok (.bastore, 1) := by decide +kernel
theorem dX10_findBest_174 : decode cX10_findBest 174 = .ok (.return_, 1) := by decide +kernel
theorem dX10_takeWanted_0 : decode cX10_takeWanted 0 = .ok (.iconst 0, 1) := by decide +kernel
theorem dX10_takeWanted_1 : decode cX10_takeWanted 1 = .ok (.istore 4, 2) := by decide +kernel
theorem dX10_takeWanted_3 : decode cX10_takeWanted 3 = .ok (.iload 4, 2) := by decide +kernel
theorem dX10_takeWanted_5 : decode cX10_takeWanted 5 = .ok (.iload_n 3, 1) := by decide +kernel
theorem dX10_takeWanted_6 : decode cX10_takeWanted 6 = .ok (.if_icmp .ge 48, 3) := by decide +kernel
theorem dX10_takeWanted_9 : decode cX10_takeWanted 9 = .ok (.aload_n 1, 1) := by decide +kernel
theorem dX10_takeWanted_10 : decode cX10_takeWanted 10 = .ok (.getfield 301, 3) := by decide +kernel
theorem dX10_takeWanted_13 : decode cX10_takeWanted 13 = .ok (.iload_n 2, 1) := by decide +kernel
theorem dX10_takeWanted_14 : decode cX10_takeWanted 14 = .ok (.iload 4, 2) := by decide +kernel
theorem dX10_takeWanted_16 : decode cX10_takeWanted 16 = .ok (.iadd, 1) := by decide +kernel
theorem dX10_takeWanted_17 : decode cX10_takeWanted 17 = .ok (.laload, 1) := by decide +kernel
theorem dX10_takeWanted_18 : decode cX10_takeWanted 18 = .ok (.lstore 5, 2) := by decide +kernel
theorem dX10_takeWanted_20 : decode cX10_takeWanted 20 = .ok (.lload 5, 2) := by decide +kernel
theorem dX10_takeWanted_22 : decode cX10_takeWanted 22 = .ok (.lconst 1, 1) := by decide +kernel
theorem dX10_takeWanted_23 : decode cX10_takeWanted 23 = .ok (.lcmp, 1) := by decide +kernel
theorem dX10_takeWanted_24 : decode cX10_takeWanted 24 = .ok (.ifCond .lt 12, 3) := by decide +kernel
theorem dX10_takeWanted_27 : decode cX10_takeWanted 27 = .ok (.lload 5, 2) := by decide +kernel
theorem dX10_takeWanted_29 : decode cX10_takeWanted 29 = .ok (.ldc2_w 330, 3) := by decide +kernel
theorem dX10_takeWanted_32 : decode cX10_takeWanted 32 = .ok (.lcmp, 1) := by decide +kernel
theorem dX10_takeWanted_33 : decode cX10_takeWanted 33 = .ok (.ifCond .le 5, 3) := by decide +kernel
theorem dX10_takeWanted_36 : decode cX10_takeWanted 36 = .ok (.iconst 0, 1) := by decide +kernel
theorem dX10_takeWanted_37 : decode cX10_takeWanted 37 = .ok (.ireturn, 1) := by decide +kernel
theorem dX10_takeWanted_38 : decode cX10_takeWanted 38 = .ok (.aload_n 0, 1) := by decide +kernel
theorem dX10_takeWanted_39 : decode cX10_takeWanted 39 = .ok (.getfield 87, 3) := by decide +kernel
theorem dX10_takeWanted_42 : decode cX10_takeWanted 42 = .ok (.iload 4, 2) := by decide +kernel
theorem dX10_takeWanted_44 : decode cX10_takeWanted 44 = .ok (.lload 5, 2) := by decide +kernel
theorem dX10_takeWanted_46 : decode cX10_takeWanted 46 = .ok (.l2i, 1) := by decide +kernel
theorem dX10_takeWanted_47 : decode cX10_takeWanted 47 = .ok (.iastore, 1) := by decide +kernel
theorem dX10_takeWanted_48 : decode cX10_takeWanted 48 = .ok (.iinc 4 1, 3) := by decide +kernel
theorem dX10_takeWanted_51 : decode cX10_takeWanted 51 = .ok (.goto (-48), 3) := by decide +kernel
theorem dX10_takeWanted_54 : decode cX10_takeWanted 54 = .ok (.iconst 1, 1) := by decide +kernel
theorem dX10_takeWanted_55 : decode cX10_takeWanted 55 = .ok (.ireturn, 1) := by decide +kernel
set_option maxRecDepth 20000 in
theorem ggX10_countSeen_X1_notches : GoodIn wsX10_countSeen wsX1_notches := goodIn_r _ [16, 17, 18, 19, 20, 15, 21, 22, 88, 89, 90, 91, 92, 93] (by decide +kernel) (by decide +kernel)
set_option maxRecDepth 20000 in
theorem gX10_countSeen_X1_notches : GoodIn wsX10_countSeen (wsV RX10 156 RX1 yX1_notches wsX1_notches) := goodIn_app (goodIn_of _ (by decide +kernel)) ggX10_countSeen_X1_notches
set_option maxRecDepth 20000 in
theorem ggX10_countSeen_X2_begin : GoodIn wsX10_countSeen wsX2_begin := goodIn_r _ [27, 28, 29, 30, 85, 86, 87] (by decide +kernel) (by decide +kernel)
set_option maxRecDepth 20000 in
theorem gX10_countSeen_X2_begin : GoodIn wsX10_countSeen (wsV RX10 317 RX2 yX2_begin wsX2_begin) := goodIn_app (goodIn_of _ (by decide +kernel)) ggX10_countSeen_X2_begin
set_option maxRecDepth 20000 in
theorem ggX10_countSeen_X5_split : GoodIn wsX10_countSeen wsX5_split := goodIn_r _ [35, 36, 37, 38, 39, 19, 20, 15, 21, 22, 40, 41, 42, 34, 43, 44, 45, 46, 47, 48, 49, 50, 51, 52, 53, 54, 55, 56, 94, 95, 96, 97, 88, 89, 90, 91, 92, 93] (by decide +kernel) (by decide +kernel)
set_option maxRecDepth 20000 in
theorem gX10_countSeen_X5_split : GoodIn wsX10_countSeen (wsV RX10 241 RX5 yX5_split wsX5_split) := goodIn_app (goodIn_of _ (by decide +kernel)) ggX10_countSeen_X5_split
set_option maxRecDepth 20000 in
theorem ggX10_countSeen_X5_haveAll : GoodIn wsX10_countSeen wsX5_haveAll := goodIn_r _ [60, 61, 62, 63, 34, 64, 36, 46, 94, 95, 96, 97] (by decide +kernel) (by decide +kernel)
set_option maxRecDepth 20000 in
theorem gX10_countSeen_X5_haveAll : GoodIn wsX10_countSeen (wsV RX10 332 RX5 yX5_haveAll wsX5_haveAll) := goodIn_app (goodIn_of _ (by decide +kernel)) ggX10_countSeen_X5_haveAll
set_option maxRecDepth 20000 in
theorem ggX10_countSeen_X2_step : GoodIn wsX10_countSeen wsX2_step := goodIn_r _ [68, 28, 30, 29, 85, 86, 87] (by decide +kernel) (by decide +kernel)
set_option maxRecDepth 20000 in
theorem gX10_countSeen_X2_step : GoodIn wsX10_countSeen (wsV RX10 326 RX2 yX2_step wsX2_step) := goodIn_app (goodIn_of _ (by decide +kernel)) ggX10_countSeen_X2_step
theorem dX10_countSeen_0 : decode cX10_countSeen 0 = .ok (.iconst 0, 1) := by decide +kernel
theorem dX10_countSeen_1 : decode cX10_countSeen 1 = .ok (.istore_n 3, 1) := by decide +kernel
theorem dX10_countSeen_2 : decode cX10_countSeen 2 = .ok (.aload_n 0, 1) := by decide +kernel
theorem dX10_countSeen_3 : decode cX10_countSeen 3 = .ok (.getfield 63, 3) := by decide +kernel
theorem dX10_countSeen_6 : decode cX10_countSeen 6 = .ok (.iload_n 1, 1) := by decide +kernel
theorem dX10_countSeen_7 : decode cX10_countSeen 7 = .ok (.aload_n 0, 1) := by decide +kernel
theorem dX10_countSeen_8 : decode cX10_countSeen 8 = .ok (.getfield 12, 3) := by decide +kernel
theorem dX10_countSeen_11 : decode cX10_countSeen 11 = .ok (.invokevirtual 156, 3) := by decide +kernel
theorem dX10_countSeen_14 : decode cX10_countSeen 14 = .ok (.invokevirtual 317, 3) := by decide +kernel
theorem dX10_countSeen_17 : decode cX10_countSeen 17 = .ok (.istore 4, 2) := by decide +kernel
theorem dX10_countSeen_19 : decode cX10_countSeen 19 = .ok (.iconst 0, 1) := by decide +kernel
theorem dX10_countSeen_20 : decode cX10_countSeen 20 = .ok (.istore 5, 2) := by decide +kernel
theorem dX10_countSeen_22 : decode cX10_countSeen 22 = .ok (.iload 5, 2) := by decide +kernel
theorem dX10_countSeen_24 : decode cX10_countSeen 24 = .ok (.ldc_w 320, 3) := by decide +kernel
theorem dX10_countSeen_27 : decode cX10_countSeen 27 = .ok (.if_icmp .ge 81, 3) := by decide +kernel
theorem dX10_countSeen_30 : decode cX10_countSeen 30 = .ok (.iload 4, 2) := by decide +kernel
theorem dX10_countSeen_32 : decode cX10_countSeen 32 = .ok (.ifCond .eq 76, 3) := by decide +kernel
theorem dX10_countSeen_35 : decode cX10_countSeen 35 = .ok (.aload_n 0, 1) := by decide +kernel
theorem dX10_countSeen_36 : decode cX10_countSeen 36 = .ok (.getfield 42, 3) := by decide +kernel
theorem dX10_countSeen_39 : decode cX10_countSeen 39 = .ok (.aload_n 0, 1) := by decide +kernel
theorem dX10_countSeen_40 : decode cX10_countSeen 40 = .ok (.getfield 12, 3) := by decide +kernel
theorem dX10_countSeen_43 : decode cX10_countSeen 43 = .ok (.aload_n 0, 1) := by decide +kernel
theorem dX10_countSeen_44 : decode cX10_countSeen 44 = .ok (.getfield 63, 3) := by decide +kernel
theorem dX10_countSeen_47 : decode cX10_countSeen 47 = .ok (.getfield 321, 3) := by decide +kernel
theorem dX10_countSeen_50 : decode cX10_countSeen 50 = .ok (.iload_n 1, 1) := by decide +kernel
theorem dX10_countSeen_51 : decode cX10_countSeen 51 = .ok (.invokevirtual 241, 3) := by decide +kernel
theorem dX10_countSeen_54 : decode cX10_countSeen 54 = .ok (.aload_n 0, 1) := by decide +kernel
theorem dX10_countSeen_55 : decode cX10_countSeen 55 = .ok (.getfield 42, 3) := by decide +kernel
theorem dX10_countSeen_58 : decode cX10_countSeen 58 = .ok (.aload_n 0, 1) := by decide +kernel
theorem dX10_countSeen_59 : decode cX10_countSeen 59 = .ok (.getfield 87, 3) := by decide +kernel
theorem dX10_countSeen_62 : decode cX10_countSeen 62 = .ok (.iload_n 2, 1) := by decide +kernel
theorem dX10_countSeen_63 : decode cX10_countSeen 63 = .ok (.invokevirtual 332, 3) := by decide +kernel
theorem dX10_countSeen_66 : decode cX10_countSeen 66 = .ok (.ifCond .eq 27, 3) := by decide +kernel
theorem dX10_countSeen_69 : decode cX10_countSeen 69 = .ok (.iload_n 3, 1) := by decide +kernel
theorem dX10_countSeen_70 : decode cX10_countSeen 70 = .ok (.ifCond .ne 20, 3) := by decide +kernel
theorem dX10_countSeen_73 : decode cX10_countSeen 73 = .ok (.aload_n 0, 1) := by decide +kernel
theorem dX10_countSeen_74 : decode cX10_countSeen 74 = .ok (.getfield 63, 3) := by decide +kernel
theorem dX10_countSeen_77 : decode cX10_countSeen 77 = .ok (.getfield 321, 3) := by decide +kernel
theorem dX10_countSeen_80 : decode cX10_countSeen 80 = .ok (.iconst 0, 1) := by decide +kernel
theorem dX10_countSeen_81 : decode cX10_countSeen 81 = .ok (.aload_n 0, 1) := by decide +kernel
theorem dX10_countSeen_82 : decode cX10_countSeen 82 = .ok (.getfield 91, 3) := by decide +kernel
theorem dX10_countSeen_85 : decode cX10_countSeen 85 = .ok (.iconst 0, 1) := by decide +kernel
theorem dX10_countSeen_86 : decode cX10_countSeen 86 = .ok (.iload_n 1, 1) := by decide +kernel
theorem dX10_countSeen_87 : decode cX10_countSeen 87 = .ok (.invokestatic 304, 3) := by decide +kernel
theorem dX10_countSeen_90 : decode cX10_countSeen 90 = .ok (.iinc 3 1, 3) := by decide +kernel
theorem dX10_countSeen_93 : decode cX10_countSeen 93 = .ok (.aload_n 0, 1) := by decide +kernel
theorem dX10_countSeen_94 : decode cX10_countSeen 94 = .ok (.getfield 63, 3) := by decide +kernel
theorem dX10_countSeen_97 : decode cX10_countSeen 97 = .ok (.invokevirtual 326, 3) := by decide +kernel
theorem dX10_countSeen_100 : decode cX10_countSeen 100 = .ok (.istore 4, 2) := by decide +kernel
theorem dX10_countSeen_102 : decode cX10_countSeen 102 = .ok (.iinc 5 1, 3) := by decide +kernel
theorem dX10_countSeen_105 : decode cX10_countSeen 105 = .ok (.goto (-83), 3) := by decide +kernel
theorem dX10_countSeen_108 : decode cX10_countSeen 108 = .ok (.iload_n 3, 1) := by decide +kernel
theorem dX10_countSeen_109 : decode cX10_countSeen 109 = .ok (.ireturn, 1) := by decide +kernel
theorem dX11_init_0 : decode cX11_init 0 = .ok (.aload_n 0, 1) := by decide +kernel
theorem dX11_init_1 : decode cX11_init 1 = .ok (.invokespecial 1, 3) := by decide +kernel
theorem dX11_init_4 : decode cX11_init 4 = .ok (.aload_n 0, 1) := by decide +kernel
theorem dX11_init_5 : decode cX11_init 5 = .ok (.bipush 60, 2) := by decide +kernel
theorem dX11_init_7 : decode cX11_init 7 = .ok (.newarray .int, 2) := by decide +kernel
theorem dX11_init_9 : decode cX11_init 9 = .ok (.putfield 7, 3) := by decide +kernel
theorem dX11_init_12 : decode cX11_init 12 = .ok (.aload_n 0, 1) := by decide +kernel
theorem dX11_init_13 : decode cX11_init 13 = .ok (.bipush 60, 2) := by decide +kernel
theorem dX11_init_15 : decode cX11_init 15 = .ok (.newarray .int, 2) := by decide +kernel
theorem dX11_init_17 : decode cX11_init 17 = .ok (.putfield 13, 3) := by decide +kernel
theorem dX11_init_20 : decode cX11_init 20 = .ok (.aload_n 0, 1) := by decide +kernel
theorem dX11_init_21 : decode cX11_init 21 = .ok (.bipush 24, 2) := by decide +kernel
theorem dX11_init_23 : decode cX11_init 23 = .ok (.newarray .int, 2) := by decide +kernel
theorem dX11_init_25 : decode cX11_init 25 = .ok (.putfield 16, 3) := by decide +kernel
theorem dX11_init_28 : decode cX11_init 28 = .ok (.aload_n 0, 1) := by decide +kernel
theorem dX11_init_29 : decode cX11_init 29 = .ok (.bipush 24, 2) := by decide +kernel
theorem dX11_init_31 : decode cX11_init 31 = .ok (.newarray .int, 2) := by decide +kernel
theorem dX11_init_33 : decode cX11_init 33 = .ok (.putfield 19, 3) := by decide +kernel
theorem dX11_init_36 : decode cX11_init 36 = .ok (.aload_n 0, 1) := by decide +kernel
theorem dX11_init_37 : decode cX11_init 37 = .ok (.bipush 24, 2) := by decide +kernel
theorem dX11_init_39 : decode cX11_init 39 = .ok (.newarray .int, 2) := by decide +kernel
theorem dX11_init_41 : decode cX11_init 41 = .ok (.putfield 22, 3) := by decide +kernel
theorem dX11_init_44 : decode cX11_init 44 = .ok (.aload_n 0, 1) := by decide +kernel
theorem dX11_init_45 : decode cX11_init 45 = .ok (.bipush 24, 2) := by decide +kernel
theorem dX11_init_47 : decode cX11_init 47 = .ok (.newarray .int, 2) := by decide +kernel
theorem dX11_init_49 : decode cX11_init 49 = .ok (.putfield 25, 3) := by decide +kernel
theorem dX11_init_52 : decode cX11_init 52 = .ok (.aload_n 0, 1) := by decide +kernel
theorem dX11_init_53 : decode cX11_init 53 = .ok (.bipush 61, 2) := by decide +kernel
theorem dX11_init_55 : decode cX11_init 55 = .ok (.newarray .int, 2) := by decide +kernel
theorem dX11_init_57 : decode cX11_init 57 = .ok (.putfield 28, 3) := by decide +kernel
theorem dX11_init_60 : decode cX11_init 60 = .ok (.aload_n 0, 1) := by decide +kernel
theorem dX11_init_61 : decode cX11_init 61 = .ok (.iconst 4, 1) := by decide +kernel
theorem dX11_init_62 : decode cX11_init 62 = .ok (.newarray .long, 2) := by decide +kernel
theorem dX11_init_64 : decode cX11_init 64 = .ok (.putfield 31, 3) := by decide +kernel
theorem dX11_init_67 : decode cX11_init 67 = .ok (.aload_n 0, 1) := by decide +kernel
theorem dX11_init_68 : decode cX11_init 68 = .ok (.sipush 2048, 3) := by decide +kernel
theorem dX11_init_71 : decode cX11_init 71 = .ok (.newarray .int, 2) := by decide +kernel
theorem dX11_init_73 : decode cX11_init 73 = .ok (.putfield 35, 3) := by decide +kernel
theorem dX11_init_76 : decode cX11_init 76 = .ok (.aload_n 0, 1) := by decide +kernel
theorem dX11_init_77 : decode cX11_init 77 = .ok (.sipush 2048, 3) := by decide +kernel
theorem dX11_init_80 : decode cX11_init 80 = .ok (.newarray .boolean, 2) := by decide +kernel
theorem dX11_init_82 : decode cX11_init 82 = .ok (.putfield 38, 3) := by decide +kernel
theorem dX11_init_85 : decode cX11_init 85 = .ok (.aload_n 0, 1) := by decide +kernel
theorem dX11_init_86 : decode cX11_init 86 = .ok (.ldc 42, 2) := by decide +kernel
theorem dX11_init_88 : decode cX11_init 88 = .ok (.newarray .boolean, 2) := by decide +kernel
theorem dX11_init_90 : decode cX11_init 90 = .ok (.putfield 43, 3) := by decide +kernel
theorem dX11_init_93 : decode cX11_init 93 = .ok (.aload_n 0, 1) := by decide +kernel
theorem dX11_init_94 : decode cX11_init 94 = .ok (.iconst 5, 1) := by decide +kernel
theorem dX11_init_95 : decode cX11_init 95 = .ok (.newarray .int, 2) := by decide +kernel
theorem dX11_init_97 : decode cX11_init 97 = .ok (.putfield 46, 3) := by decide +kernel
theorem dX11_init_100 : decode cX11_init 100 = .ok (.aload_n 0, 1) := by decide +kernel
theorem dX11_init_101 : decode cX11_init 101 = .ok (.ldc 49, 2) := by decide +kernel
theorem dX11_init_103 : decode cX11_init 103 = .ok (.newarray .int, 2) := by decide +kernel
theorem dX11_init_105 : decode cX11_init 105 = .ok (.putfield 50, 3) := by decide +kernel
theorem dX11_init_108 : decode cX11_init 108 = .ok (.aload_n 0, 1) := by decide +kernel
theorem dX11_init_109 : decode cX11_init 109 = .ok (.bipush 32, 2) := by decide +kernel
theorem dX11_init_111 : decode cX11_init 111 = .ok (.newarray .long, 2) := by decide +kernel
theorem dX11_init_113 : decode cX11_init 113 = .ok (.putfield 53, 3) := by decide +kernel
theorem dX11_init_116 : decode cX11_init 116 = .ok (.aload_n 0, 1) := by decide +kernel
theorem dX11_init_117 : decode cX11_init 117 = .ok (.sipush 1984, 3) := by decide +kernel
theorem dX11_init_120 : decode cX11_init 120 = .ok (.newarray .int, 2) := by decide +kernel
theorem dX11_init_122 : decode cX11_init 122 = .ok (.putfield 56, 3) := by decide +kernel
theorem dX11_init_125 : decode cX11_init 125 = .ok (.aload_n 0, 1) := by decide +kernel
theorem dX11_init_126 : decode cX11_init 126 = .ok (.iconst 5, 1) := by decide +kernel
theorem dX11_init_127 : decode cX11_init 127 = .ok (.newarray .int, 2) := by decide +kernel
theorem dX11_init_129 : decode cX11_init 129 = .ok (.putfield 59, 3) := by decide +kernel
theorem dX11_init_132 : decode cX11_init 132 = .ok (.aload_n 0, 1) := by decide +kernel
theorem dX11_init_133 : decode cX11_init 133 = .ok (.iconst 4, 1) := by decide +kernel
theorem dX11_init_134 : decode cX11_init 134 = .ok (.newarray .int, 2) := by decide +kernel
theorem dX11_init_136 : decode cX11_init 136 = .ok (.putfield 62, 3) := by decide +kernel
theorem dX11_init_139 : decode cX11_init 139 = .ok (.aload_n 0, 1) := by decide +kernel
theorem dX11_init_140 : decode cX11_init 140 = .ok (.iconst 4, 1) := by decide +kernel
theorem dX11_init_141 : decode cX11_init 141 = .ok (.newarray .int, 2) := by decide +kernel
theorem dX11_init_143 : decode cX11_init 143 = .ok (.putfield 65, 3) := by decide +kernel
theorem dX11_init_146 : decode cX11_init 146 = .ok (.aload_n 0, 1) := by decide +kernel
theorem dX11_init_147 : decode cX11_init 147 = .ok (.bipush 96, 2) := by decide +kernel
theorem dX11_init_149 : decode cX11_init 149 = .ok (.newarray .long, 2) := by decide +kernel
theorem dX11_init_151 : decode cX11_init 151 = .ok (.putfield 68, 3) := by decide +kernel
theorem dX11_init_154 : decode cX11_init 154 = .ok (.aload_n 0, 1) := by decide +kernel
theorem dX11_init_155 : decode cX11_init 155 = .ok (.bipush 24, 2) := by decide +kernel
theorem dX11_init_157 : decode cX11_init 157 = .ok (.newarray .long, 2) := by decide +kernel
theorem dX11_init_159 : decode cX11_init 159 = .ok (.putfield 71, 3) := by decide +kernel
theorem dX11_init_162 : decode cX11_init 162 = .ok (.aload_n 0, 1) := by decide +kernel
theorem dX11_init_163 : decode cX11_init 163 = .ok (.bipush 24, 2) := by decide +kernel
theorem dX11_init_165 : decode cX11_init 165 = .ok (.newarray .boolean, 2) := by decide +kernel
theorem dX11_init_167 : decode cX11_init 167 = .ok (.putfield 74, 3) := by decide +kernel
theorem dX11_init_170 : decode cX11_init 170 = .ok (.aload_n 0, 1) := by decide +kernel
theorem dX11_init_171 : decode cX11_init 171 = .ok (.getfield 7, 3) := by decide +kernel
theorem dX11_init_174 : decode cX11_init 174 = .ok (.iconst 1, 1) := by decide +kernel
theorem dX11_init_175 : decode cX11_init 175 = .ok (.iconst 1, 1) := by decide +kernel
theorem dX11_init_176 : decode cX11_init 176 = .ok (.iastore, 1) := by decide +kernel
theorem dX11_init_177 : decode cX11_init 177 = .ok (.aload_n 0, 1) := by decide +kernel
theorem dX11_init_178 : decode cX11_init 178 = .ok (.getfield 7, 3) := by decide +kernel
theorem dX11_init_181 : decode cX11_init 181 = .ok (.iconst 2, 1) := by decide +kernel
theorem dX11_init_182 : decode cX11_init 182 = .ok (.iconst 1, 1) := by decide +kernel
theorem dX11_init_183 : decode cX11_init 183 = .ok (.iastore, 1) := by decide +kernel
theorem dX11_init_184 : decode cX11_init 184 = .ok (.aload_n 0, 1) := by decide +kernel
theorem dX11_init_185 : decode cX11_init 185 = .ok (.getfield 7, 3) := by decide +kernel
theorem dX11_init_188 : decode cX11_init 188 = .ok (.bipush 27, 2) := by decide +kernel
theorem dX11_init_190 : decode cX11_init 190 = .ok (.iconst 1, 1) := by decide +kernel
theorem dX11_init_191 : decode cX11_init 191 = .ok (.iastore, 1) := by decide +kernel
theorem dX11_init_192 : decode cX11_init 192 = .ok (.iconst 0, 1) := by decide +kernel
theorem dX11_init_193 : decode cX11_init 193 = .ok (.istore_n 1, 1) := by decide +kernel
theorem dX11_init_194 : decode cX11_init 194 = .ok (.iload_n 1, 1) := by decide +kernel
theorem dX11_init_195 : decode cX11_init 195 = .ok (.iconst 4, 1) := by decide +kernel
theorem dX11_init_196 : decode cX11_init 196 = .ok (.if_icmp .ge 16, 3) := by decide +kernel
theorem dX11_init_199 : decode cX11_init 199 = .ok (.aload_n 0, 1) := by decide +kernel
theorem dX11_init_200 : decode cX11_init 200 = .ok (.getfield 62, 3) := by decide +kernel
theorem dX11_init_203 : decode cX11_init 203 = .ok (.iload_n 1, 1) := by decide +kernel
theorem dX11_init_204 : decode cX11_init 204 = .ok (.iconst (-1), 1) := by decide +kernel
theorem dX11_init_205 : decode cX11_init 205 = .ok (.iastore, 1) := by decide +kernel
theorem dX11_init_206 : decode cX11_init 206 = .ok (.iinc 1 1, 3) := by decide +kernel
theorem dX11_init_209 : decode cX11_init 209 = .ok (.goto (-15), 3) := by decide +kernel
theorem dX11_init_212 : decode cX11_init 212 = .ok (.return_, 1) := by decide +kernel
theorem dX11_in_0 : decode cX11_in 0 = .ok (.lload_n 0, 1) := by decide +kernel
theorem dX11_in_1 : decode cX11_in 1 = .ok (.lload_n 2, 1) := by decide +kernel
theorem dX11_in_2 : decode cX11_in 2 = .ok (.lcmp, 1) := by decide +kernel
theorem dX11_in_3 : decode cX11_in 3 = .ok (.ifCond .lt 14, 3) := by decide +kernel
theorem dX11_in_6 : decode cX11_in 6 = .ok (.lload_n 0, 1) := by decide +kernel
theorem dX11_in_7 : decode cX11_in 7 = .ok (.lload 4, 2) := by decide +kernel
theorem dX11_in_9 : decode cX11_in 9 = .ok (.lcmp, 1) := by decide +kernel
theorem dX11_in_10 : decode cX11_in 10 = .ok (.ifCond .gt 7, 3) := by decide +kernel
theorem dX11_in_13 : decode cX11_in 13 = .ok (.iconst 1, 1) := by decide +kernel
theorem dX11_in_14 : decode cX11_in 14 = .ok (.goto 4, 3) := by decide +kernel
theorem dX11_in_17 : decode cX11_in 17 = .ok (.iconst 0, 1) := by decide +kernel
theorem dX11_in_18 : decode cX11_in 18 = .ok (.ireturn, 1) := by decide +kernel
theorem dX11_has_0 : decode cX11_has 0 = .ok (.iload_n 0, 1) := by decide +kernel
theorem dX11_has_1 : decode cX11_has 1 = .ok (.iload_n 1, 1) := by decide +kernel
theorem dX11_has_2 : decode cX11_has 2 = .ok (.ishr, 1) := by decide +kernel
theorem dX11_has_3 : decode cX11_has 3 = .ok (.iconst 1, 1) := by decide +kernel
theorem dX11_has_4 : decode cX11_has 4 = .ok (.iand, 1) := by decide +kernel
theorem dX11_has_5 : decode cX11_has 5 = .ok (.iconst 1, 1) := by decide +kernel
theorem dX11_has_6 : decode cX11_has 6 = .ok (.if_icmp .ne 7, 3) := by decide +kernel
theorem dX11_has_9 : decode cX11_has 9 = .ok (.iconst 1, 1) := by decide +kernel
theorem dX11_has_10 : decode cX11_has 10 = .ok (.goto 4, 3) := by decide +kernel
theorem dX11_has_13 : decode cX11_has 13 = .ok (.iconst 0, 1) := by decide +kernel
theorem dX11_has_14 : decode cX11_has 14 = .ok (.ireturn, 1) := by decide +kernel
theorem dX11_ones_0 : decode cX11_ones 0 = .ok (.iconst 0, 1) := by decide +kernel
theorem dX11_ones_1 : decode cX11_ones 1 = .ok (.istore_n 1, 1) := by decide +kernel
theorem dX11_ones_2 : decode cX11_ones 2 = .ok (.iload_n 0, 1) := by decide +kernel
theorem dX11_ones_3 : decode cX11_ones 3 = .ok (.istore_n 2, 1) := by decide +kernel
theorem dX11_ones_4 : decode cX11_ones 4 = .ok (.iload_n 2, 1) := by decide +kernel
theorem dX11_ones_5 : decode cX11_ones 5 = .ok (.ifCond .eq 15, 3) := by decide +kernel
theorem dX11_ones_8 : decode cX11_ones 8 = .ok (.iinc 1 1, 3) := by decide +kernel
theorem dX11_ones_11 : decode cX11_ones 11 = .ok (.iload_n 2, 1) := by decide +kernel
theorem dX11_ones_12 : decode cX11_ones 12 = .ok (.iload_n 2, 1) := by decide +kernel
theorem dX11_ones_13 : decode cX11_ones 13 = .ok (.iconst 1, 1) := by decide +kernel
theorem dX11_ones_14 : decode cX11_ones 14 = .ok (.isub, 1) := by decide +kernel
theorem dX11_ones_15 : decode cX11_ones 15 = .ok (.iand, 1) := by decide +kernel
theorem dX11_ones_16 : decode cX11_ones 16 = .ok (.istore_n 2, 1) := by decide +kernel
theorem dX11_ones_17 : decode cX11_ones 17 = .ok (.goto (-13), 3) := by decide +kernel
theorem dX11_ones_20 : decode cX11_ones 20 = .ok (.iload_n 1, 1) := by decide +kernel
theorem dX11_ones_21 : decode cX11_ones 21 = .ok (.ireturn, 1) := by decide +kernel
theorem dX11_notches_0 : decode cX11_notches 0 = .ok (.aload_n 0, 1) := by decide +kernel
theorem dX11_notches_1 : decode cX11_notches 1 = .ok (.getfield 7, 3) := by decide +kernel
theorem dX11_notches_4 : decode cX11_notches 4 = .ok (.iconst 1, 1) := by decide +kernel
theorem dX11_notches_5 : decode cX11_notches 5 = .ok (.iaload, 1) := by decide +kernel
theorem dX11_notches_6 : decode cX11_notches 6 = .ok (.aload_n 0, 1) := by decide +kernel
theorem dX11_notches_7 : decode cX11_notches 7 = .ok (.getfield 7, 3) := by decide +kernel
theorem dX11_notches_10 : decode cX11_notches 10 = .ok (.iconst 0, 1) := by decide +kernel
theorem dX11_notches_11 : decode cX11_notches 11 = .ok (.iaload, 1) := by decide +kernel
theorem dX11_notches_12 : decode cX11_notches 12 = .ok (.iconst 2, 1) := by decide +kernel
theorem dX11_notches_13 : decode cX11_notches 13 = .ok (.if_icmp .lt 7, 3) := by decide +kernel
theorem dX11_notches_16 : decode cX11_notches 16 = .ok (.iconst 1, 1) := by decide +kernel
theorem dX11_notches_17 : decode cX11_notches 17 = .ok (.goto 4, 3) := by decide +kernel
theorem dX11_notches_20 : decode cX11_notches 20 = .ok (.iconst 0, 1) := by decide +kernel
theorem dX11_notches_21 : decode cX11_notches 21 = .ok (.isub, 1) := by decide +kernel
theorem dX11_notches_22 : decode cX11_notches 22 = .ok (.ireturn, 1) := by decide +kernel
set_option maxRecDepth 20000 in
theorem ggX11_isNotch_X11_notches : GoodIn wsX11_isNotch wsX11_notches := goodIn_r _ [5, 6, 10, 11, 12, 13, 14, 15, 16, 17, 18, 19, 20, 21, 22, 23, 24, 25, 26, 27, 28, 29, 30, 31, 32, 33, 34, 35, 36, 37, 38, 39] (by decide +kernel) (by decide +kernel)
set_option maxRecDepth 20000 in
theorem gX11_isNotch_X11_notches : GoodIn wsX11_isNotch (wsV RX11 77 RX11 yX11_notches wsX11_notches) := goodIn_app (goodIn_of _ (by decide +kernel)) ggX11_isNotch_X11_notches
set_option maxRecDepth 20000 in
theorem ggX11_isNotch_X11_in : GoodIn wsX11_isNotch wsX11_in := goodIn_r _ [9] (by decide +kernel) (by decide +kernel)
set_option maxRecDepth 20000 in
theorem gX11_isNotch_X11_in : GoodIn wsX11_isNotch (va_wsS RX11 81 yX11_in wsX11_in) := goodIn_app (goodIn_of _ (by decide +kernel)) ggX11_isNotch_X11_in
theorem dX11_isNotch_0 : decode cX11_isNotch 0 = .ok (.iload_n 1, 1) := by decide +kernel
theorem dX11_isNotch_1 : decode cX11_isNotch 1 = .ok (.i2l, 1) := by decide +kernel
theorem dX11_isNotch_2 : decode cX11_isNotch 2 = .ok (.lconst 0, 1) := by decide +kernel
theorem dX11_isNotch_3 : decode cX11_isNotch 3 = .ok (.aload_n 0, 1) := by decide +kernel
theorem dX11_isNotch_4 : decode cX11_isNotch 4 = .ok (.invokevirtual 77, 3) := by decide +kernel
theorem dX11_isNotch_7 : decode cX11_isNotch 7 = .ok (.iconst 1, 1) := by decide +kernel
theorem dX11_isNotch_8 : decode cX11_isNotch 8 = .ok (.isub, 1) := by decide +kernel
theorem dX11_isNotch_9 : decode cX11_isNotch 9 = .ok (.i2l, 1) := by decide +kernel
theorem dX11_isNotch_10 : decode cX11_isNotch 10 = .ok (.invokestatic 81, 3) := by decide +kernel
theorem dX11_isNotch_13 : decode cX11_isNotch 13 = .ok (.ireturn, 1) := by decide +kernel
theorem dX11_addPiece_0 : decode cX11_addPiece 0 = .ok (.aload_n 0, 1) := by decide +kernel
theorem dX11_addPiece_1 : decode cX11_addPiece 1 = .ok (.getfield 16, 3) := by decide +kernel
theorem dX11_addPiece_4 : decode cX11_addPiece 4 = .ok (.aload_n 0, 1) := by decide +kernel
theorem dX11_addPiece_5 : decode cX11_addPiece 5 = .ok (.getfield 85, 3) := by decide +kernel
theorem dX11_addPiece_8 : decode cX11_addPiece 8 = .ok (.iload_n 1, 1) := by decide +kernel
theorem dX11_addPiece_9 : decode cX11_addPiece 9 = .ok (.iastore, 1) := by decide +kernel
theorem dX11_addPiece_10 : decode cX11_addPiece 10 = .ok (.aload_n 0, 1) := by decide +kernel
theorem dX11_addPiece_11 : decode cX11_addPiece 11 = .ok (.getfield 19, 3) := by decide +kernel
theorem dX11_addPiece_14 : decode cX11_addPiece 14 = .ok (.aload_n 0, 1) := by decide +kernel
theorem dX11_addPiece_15 : decode cX11_addPiece 15 = .ok (.getfield 85, 3) := by decide +kernel
theorem dX11_addPiece_18 : decode cX11_addPiece 18 = .ok (.iconst 0, 1) := by decide +kernel
theorem dX11_addPiece_19 : decode cX11_addPiece 19 = .ok (.iastore, 1) := by decide +kernel
theorem dX11_addPiece_20 : decode cX11_addPiece 20 = .ok (.aload_n 0, 1) := by decide +kernel
theorem dX11_addPiece_21 : decode cX11_addPiece 21 = .ok (.getfield 22, 3) := by decide +kernel
theorem dX11_addPiece_24 : decode cX11_addPiece 24 = .ok (.aload_n 0, 1) := by decide +kernel
theorem dX11_addPiece_25 : decode cX11_addPiece 25 = .ok (.getfield 85, 3) := by decide +kernel
theorem dX11_addPiece_28 : decode cX11_addPiece 28 = .ok (.iconst 0, 1) := by decide +kernel
theorem dX11_addPiece_29 : decode cX11_addPiece 29 = .ok (.iastore, 1) := by decide +kernel
theorem dX11_addPiece_30 : decode cX11_addPiece 30 = .ok (.aload_n 0, 1) := by decide +kernel
theorem dX11_addPiece_31 : decode cX11_addPiece 31 = .ok (.dup, 1) := by decide +kernel
theorem dX11_addPiece_32 : decode cX11_addPiece 32 = .ok (.getfield 85, 3) := by decide +kernel
theorem dX11_addPiece_35 : decode cX11_addPiece 35 = .ok (.iconst 1, 1) := by decide +kernel
theorem dX11_addPiece_36 : decode cX11_addPiece 36 = .ok (.iadd, 1) := by decide +kernel
theorem dX11_addPiece_37 : decode cX11_addPiece 37 = .ok (.putfield 85, 3) := by decide +kernel
theorem dX11_addPiece_40 : decode cX11_addPiece 40 = .ok (.return_, 1) := by decide +kernel
set_option maxRecDepth 20000 in
theorem ggX11_lay_X11_has : GoodIn wsX11_lay wsX11_has := goodIn_r _ [9] (by decide +kernel) (by decide +kernel)
set_option maxRecDepth 20000 in
theorem gX11_lay_X11_has : GoodIn wsX11_lay (va_wsS RX11 89 yX11_has wsX11_has) := goodIn_app (goodIn_of _ (by decide +kernel)) ggX11_lay_X11_has
set_option maxRecDepth 20000 in
theorem ggX11_lay_X11_addPiece : GoodIn wsX11_lay wsX11_addPiece := goodIn_r _ [13, 5, 1, 3, 4, 14, 15, 16, 17, 18, 19, 20, 21, 22, 23, 24, 25, 26, 27, 28, 29, 30, 31, 32, 33, 34, 35, 36, 37, 38, 39, 40, 41, 42, 43] (by decide +kernel) (by decide +kernel)
set_option maxRecDepth 20000 in
theorem gX11_lay_X11_addPiece : GoodIn wsX11_lay (wsV RX11 93 RX11 yX11_addPiece wsX11_addPiece) := goodIn_app (goodIn_of _ (by decide +kernel)) ggX11_lay_X11_addPiece
theorem dX11_lay_0 : decode cX11_lay 0 = .ok (.aload_n 0, 1) := by decide +kernel
theorem dX11_lay_1 : decode cX11_lay 1 = .ok (.iconst 0, 1) := by decide +kernel
theorem dX11_lay_2 : decode cX11_lay 2 = .ok (.putfield 85, 3) := by decide +kernel
theorem dX11_lay_5 : decode cX11_lay 5 = .ok (.iconst 0, 1) := by decide +kernel
theorem dX11_lay_6 : decode cX11_lay 6 = .ok (.istore_n 2, 1) := by decide +kernel
theorem dX11_lay_7 : decode cX11_lay 7 = .ok (.iload_n 2, 1) := by decide +kernel
theorem dX11_lay_8 : decode cX11_lay 8 = .ok (.aload_n 0, 1) := by decide +kernel
theorem dX11_lay_9 : decode cX11_lay 9 = .ok (.getfield 7, 3) := by decide +kernel
theorem dX11_lay_12 : decode cX11_lay 12 = .ok (.iconst 1, 1) := by decide +kernel
theorem dX11_lay_13 : decode cX11_lay 13 = .ok (.iaload, 1) := by decide +kernel
theorem dX11_lay_14 : decode cX11_lay 14 = .ok (.if_icmp .ge 160, 3) := by decide +kernel
theorem dX11_lay_17 : decode cX11_lay 17 = .ok (.aload_n 0, 1) := by decide +kernel
theorem dX11_lay_18 : decode cX11_lay 18 = .ok (.getfield 7, 3) := by decide +kernel
theorem dX11_lay_21 : decode cX11_lay 21 = .ok (.iconst 0, 1) := by decide +kernel
theorem dX11_lay_22 : decode cX11_lay 22 = .ok (.iaload, 1) := by decide +kernel
theorem dX11_lay_23 : decode cX11_lay 23 = .ok (.iconst 2, 1) := by decide +kernel
theorem dX11_lay_24 : decode cX11_lay 24 = .ok (.if_icmp .ge 15, 3) := by decide +kernel
theorem dX11_lay_27 : decode cX11_lay 27 = .ok (.iload_n 1, 1) := by decide +kernel
theorem dX11_lay_28 : decode cX11_lay 28 = .ok (.iload_n 2, 1) := by decide +kernel
theorem dX11_lay_29 : decode cX11_lay 29 = .ok (.invokestatic 89, 3) := by decide +kernel
theorem dX11_lay_32 : decode cX11_lay 32 = .ok (.ifCond .eq 7, 3) := by decide +kernel
theorem dX11_lay_35 : decode cX11_lay 35 = .ok (.iconst 1, 1) := by decide +kernel
theorem dX11_lay_36 : decode cX11_lay 36 = .ok (.goto 4, 3) := by decide +kernel
theorem dX11_lay_39 : decode cX11_lay 39 = .ok (.iconst 0, 1) := by decide +kernel
theorem dX11_lay_40 : decode cX11_lay 40 = .ok (.istore_n 3, 1) := by decide +kernel
theorem dX11_lay_41 : decode cX11_lay 41 = .ok (.iload_n 2, 1) := by decide +kernel
theorem dX11_lay_42 : decode cX11_lay 42 = .ok (.ifCond .eq 13, 3) := by decide +kernel
theorem dX11_lay_45 : decode cX11_lay 45 = .ok (.iload_n 1, 1) := by decide +kernel
theorem dX11_lay_46 : decode cX11_lay 46 = .ok (.iload_n 2, 1) := by decide +kernel
theorem dX11_lay_47 : decode cX11_lay 47 = .ok (.iconst 1, 1) := by decide +kernel
theorem dX11_lay_48 : decode cX11_lay 48 = .ok (.isub, 1) := by decide +kernel
theorem dX11_lay_49 : decode cX11_lay 49 = .ok (.invokestatic 89, 3) := by decide +kernel
theorem dX11_lay_52 : decode cX11_lay 52 = .ok (.ifCond .eq 7, 3) := by decide +kernel
theorem dX11_lay_55 : decode cX11_lay 55 = .ok (.iconst 1, 1) := by decide +kernel
theorem dX11_lay_56 : decode cX11_lay 56 = .ok (.goto 4, 3) := by decide +kernel
theorem dX11_lay_59 : decode cX11_lay 59 = .ok (.iconst 0, 1) := by decide +kernel
theorem dX11_lay_60 : decode cX11_lay 60 = .ok (.istore 4, 2) := by decide +kernel
theorem dX11_lay_62 : decode cX11_lay 62 = .ok (.iload_n 3, 1) := by decide +kernel
theorem dX11_lay_63 : decode cX11_lay 63 = .ok (.ifCond .ne 8, 3) := by decide +kernel
theorem dX11_lay_66 : decode cX11_lay 66 = .ok (.iload 4, 2) := by decide +kernel
theorem dX11_lay_68 : decode cX11_lay 68 = .ok (.ifCond .eq 8, 3) := by decide +kernel
theorem dX11_lay_71 : decode cX11_lay 71 = .ok (.aload_n 0, 1) := by decide +kernel
theorem dX11_lay_72 : decode cX11_lay 72 = .ok (.iload_n 2, 1) := by decide +kernel
theorem dX11_lay_73 : decode cX11_lay 73 = .ok (.invokevirtual 93, 3) := by decide +kernel
theorem dX11_lay_76 : decode cX11_lay 76 = .ok (.aload_n 0, 1) := by decide +kernel
theorem dX11_lay_77 : decode cX11_lay 77 = .ok (.getfield 7, 3) := by decide +kernel
theorem dX11_lay_80 : decode cX11_lay 80 = .ok (.iconst 0, 1) := by decide +kernel
theorem dX11_lay_81 : decode cX11_lay 81 = .ok (.iaload, 1) := by decide +kernel
theorem dX11_lay_82 : decode cX11_lay 82 = .ok (.iconst 3, 1) := by decide +kernel
theorem dX11_lay_83 : decode cX11_lay 83 = .ok (.if_icmp .ne 27, 3) := by decide +kernel
theorem dX11_lay_86 : decode cX11_lay 86 = .ok (.iload_n 1, 1) := by decide +kernel
theorem dX11_lay_87 : decode cX11_lay 87 = .ok (.iload_n 2, 1) := by decide +kernel
theorem dX11_lay_88 : decode cX11_lay 88 = .ok (.invokestatic 89, 3) := by decide +kernel
theorem dX11_lay_91 : decode cX11_lay 91 = .ok (.ifCond .eq 19, 3) := by decide +kernel
theorem dX11_lay_94 : decode cX11_lay 94 = .ok (.aload_n 0, 1) := by decide +kernel
theorem dX11_lay_95 : decode cX11_lay 95 = .ok (.getfield 7, 3) := by decide +kernel
theorem dX11_lay_98 : decode cX11_lay 98 = .ok (.iconst 2, 1) := by decide +kernel
theorem dX11_lay_99 : decode cX11_lay 99 = .ok (.iload_n 2, 1) := by decide +kernel
theorem dX11_lay_100 : decode cX11_lay 100 = .ok (.iadd, 1) := by decide +kernel
theorem dX11_lay_101 : decode cX11_lay 101 = .ok (.iaload, 1) := by decide +kernel
theorem dX11_lay_102 : decode cX11_lay 102 = .ok (.iconst 1, 1) := by decide +kernel
theorem dX11_lay_103 : decode cX11_lay 103 = .ok (.if_icmp .le 7, 3) := by decide +kernel
theorem dX11_lay_106 : decode cX11_lay 106 = .ok (.iconst 1, 1) := by decide +kernel
theorem dX11_lay_107 : decode cX11_lay 107 = .ok (.goto 4, 3) := by decide +kernel
theorem dX11_lay_110 : decode cX11_lay 110 = .ok (.iconst 0, 1) := by decide +kernel
theorem dX11_lay_111 : decode cX11_lay 111 = .ok (.istore 5, 2) := by decide +kernel
theorem dX11_lay_113 : decode cX11_lay 113 = .ok (.aload_n 0, 1) := by decide +kernel
theorem dX11_lay_114 : decode cX11_lay 114 = .ok (.getfield 19, 3) := by decide +kernel
theorem dX11_lay_117 : decode cX11_lay 117 = .ok (.aload_n 0, 1) := by decide +kernel
theorem dX11_lay_118 : decode cX11_lay 118 = .ok (.getfield 85, 3) := by decide +kernel
theorem dX11_lay_121 : decode cX11_lay 121 = .ok (.iconst 1, 1) := by decide +kernel
theorem dX11_lay_122 : decode cX11_lay 122 = .ok (.isub, 1) := by decide +kernel
theorem dX11_lay_123 : decode cX11_lay 123 = .ok (.dup2, 1) := by decide +kernel
theorem dX11_lay_124 : decode cX11_lay 124 = .ok (.iaload, 1) := by decide +kernel
theorem dX11_lay_125 : decode cX11_lay 125 = .ok (.iconst 1, 1) := by decide +kernel
theorem dX11_lay_126 : decode cX11_lay 126 = .ok (.iadd, 1) := by decide +kernel
theorem dX11_lay_127 : decode cX11_lay 127 = .ok (.iastore, 1) := by decide +kernel
theorem dX11_lay_128 : decode cX11_lay 128 = .ok (.aload_n 0, 1) := by decide +kernel
theorem dX11_lay_129 : decode cX11_lay 129 = .ok (.getfield 22, 3) := by decide +kernel
theorem dX11_lay_132 : decode cX11_lay 132 = .ok (.aload_n 0, 1) := by decide +kernel
theorem dX11_lay_133 : decode cX11_lay 133 = .ok (.getfield 85, 3) := by decide +kernel
theorem dX11_lay_136 : decode cX11_lay 136 = .ok (.iconst 1, 1) := by decide +kernel
theorem dX11_lay_137 : decode cX11_lay 137 = .ok (.isub, 1) := by decide +kernel
theorem dX11_lay_138 : decode cX11_lay 138 = .ok (.dup2, 1) := by decide +kernel
theorem dX11_lay_139 : decode cX11_lay 139 = .ok (.iaload, 1) := by decide +kernel
theorem dX11_lay_140 : decode cX11_lay 140 = .ok (.iload 5, 2) := by decide +kernel
theorem dX11_lay_142 : decode cX11_lay 142 = .ok (.ifCond .eq 16, 3) := by decide +kernel
theorem dX11_lay_145 : decode cX11_lay 145 = .ok (.aload_n 0, 1) := by decide +kernel
theorem dX11_lay_146 : decode cX11_lay 146 = .ok (.getfield 7, 3) := by decide +kernel
theorem dX11_lay_149 : decode cX11_lay 149 = .ok (.iconst 2, 1) := by decide +kernel
theorem dX11_lay_150 : decode cX11_lay 150 = .ok (.iload_n 2, 1) := by decide +kernel
theorem dX11_lay_151 : decode cX11_lay 151 = .ok (.iadd, 1) := by decide +kernel
theorem dX11_lay_152 : decode cX11_lay 152 = .ok (.iaload, 1) := by decide +kernel
theorem dX11_lay_153 : decode cX11_lay 153 = .ok (.iconst 1, 1) := by decide +kernel
theorem dX11_lay_154 : decode cX11_lay 154 = .ok (.isub, 1) := by decide +kernel
theorem dX11_lay_155 : decode cX11_lay 155 = .ok (.goto 11, 3) := by decide +kernel
theorem dX11_lay_158 : decode cX11_lay 158 = .ok (.aload_n 0, 1) := by decide +kernel
theorem dX11_lay_159 : decode cX11_lay 159 = .ok (.getfield 7, 3) := by decide +kernel
theorem dX11_lay_162 : decode cX11_lay 162 = .ok (.iconst 2, 1) := by decide +kernel
theorem dX11_lay_163 : decode cX11_lay 163 = .ok (.iload_n 2, 1) := by decide +kernel
theorem dX11_lay_164 : decode cX11_lay 164 = .ok (.iadd, 1) := by decide +kernel
theorem dX11_lay_165 : decode cX11_lay 165 = .ok (.iaload, 1) := by decide +kernel
theorem dX11_lay_166 : decode cX11_lay 166 = .ok (.iadd, 1) := by decide +kernel
theorem dX11_lay_167 : decode cX11_lay 167 = .ok (.iastore, 1) := by decide +kernel
theorem dX11_lay_168 : decode cX11_lay 168 = .ok (.iinc 2 1, 3) := by decide +kernel
theorem dX11_lay_171 : decode cX11_lay 171 = .ok (.goto (-164), 3) := by decide +kernel
theorem dX11_lay_174 : decode cX11_lay 174 = .ok (.aload_n 0, 1) := by decide +kernel
theorem dX11_lay_175 : decode cX11_lay 175 = .ok (.getfield 7, 3) := by decide +kernel
theorem dX11_lay_178 : decode cX11_lay 178 = .ok (.iconst 0, 1) := by decide +kernel
theorem dX11_lay_179 : decode cX11_lay 179 = .ok (.iaload, 1) := by decide +kernel
theorem dX11_lay_180 : decode cX11_lay 180 = .ok (.iconst 1, 1) := by decide +kernel
theorem dX11_lay_181 : decode cX11_lay 181 = .ok (.if_icmp .ne 38, 3) := by decide +kernel
theorem dX11_lay_184 : decode cX11_lay 184 = .ok (.aload_n 0, 1) := by decide +kernel
theorem dX11_lay_185 : decode cX11_lay 185 = .ok (.getfield 85, 3) := by decide +kernel
theorem dX11_lay_188 : decode cX11_lay 188 = .ok (.iconst 1, 1) := by decide +kernel
theorem dX11_lay_189 : decode cX11_lay 189 = .ok (.if_icmp .le 30, 3) := by decide +kernel
theorem dX11_lay_192 : decode cX11_lay 192 = .ok (.iload_n 1, 1) := by decide +kernel
theorem dX11_lay_193 : decode cX11_lay 193 = .ok (.iconst 0, 1) := by decide +kernel
theorem dX11_lay_194 : decode cX11_lay 194 = .ok (.invokestatic 89, 3) := by decide +kernel
theorem dX11_lay_197 : decode cX11_lay 197 = .ok (.ifCond .ne 22, 3) := by decide +kernel
theorem dX11_lay_200 : decode cX11_lay 200 = .ok (.iload_n 1, 1) := by decide +kernel
theorem dX11_lay_201 : decode cX11_lay 201 = .ok (.aload_n 0, 1) := by decide +kernel
theorem dX11_lay_202 : decode cX11_lay 202 = .ok (.getfield 7, 3) := by decide +kernel
theorem dX11_lay_205 : decode cX11_lay 205 = .ok (.iconst 1, 1) := by decide +kernel
theorem dX11_lay_206 : decode cX11_lay 206 = .ok (.iaload, 1) := by decide +kernel
theorem dX11_lay_207 : decode cX11_lay 207 = .ok (.iconst 1, 1) := by decide +kernel
theorem dX11_lay_208 : decode cX11_lay 208 = .ok (.isub, 1) := by decide +kernel
theorem dX11_lay_209 : decode cX11_lay 209 = .ok (.invokestatic 89, 3) := by decide +kernel
theorem dX11_lay_212 : decode cX11_lay 212 = .ok (.ifCond .ne 7, 3) := by decide +kernel
theorem dX11_lay_215 : decode cX11_lay 215 = .ok (.iconst 1, 1) := by decide +kernel
theorem dX11_lay_216 : decode cX11_lay 216 = .ok (.goto 4, 3) := by decide +kernel
theorem dX11_lay_219 : decode cX11_lay 219 = .ok (.iconst 0, 1) := by decide +kernel
theorem dX11_lay_220 : decode cX11_lay 220 = .ok (.istore_n 2, 1) := by decide +kernel
theorem dX11_lay_221 : decode cX11_lay 221 = .ok (.iload_n 2, 1) := by decide +kernel
theorem dX11_lay_222 : decode cX11_lay 222 = .ok (.ifCond .eq 125, 3) := by decide +kernel
theorem dX11_lay_225 : decode cX11_lay 225 = .ok (.aload_n 0, 1) := by decide +kernel
theorem dX11_lay_226 : decode cX11_lay 226 = .ok (.dup, 1) := by decide +kernel
theorem dX11_lay_227 : decode cX11_lay 227 = .ok (.getfield 85, 3) := by decide +kernel
theorem dX11_lay_230 : decode cX11_lay 230 = .ok (.iconst 1, 1) := by decide +kernel
theorem dX11_lay_231 : decode cX11_lay 231 = .ok (.isub, 1) := by decide +kernel
theorem dX11_lay_232 : decode cX11_lay 232 = .ok (.putfield 85, 3) := by decide +kernel
theorem dX11_lay_235 : decode cX11_lay 235 = .ok (.aload_n 0, 1) := by decide +kernel
theorem dX11_lay_236 : decode cX11_lay 236 = .ok (.getfield 19, 3) := by decide +kernel
theorem dX11_lay_239 : decode cX11_lay 239 = .ok (.iconst 0, 1) := by decide +kernel
theorem dX11_lay_240 : decode cX11_lay 240 = .ok (.iaload, 1) := by decide +kernel
theorem dX11_lay_241 : decode cX11_lay 241 = .ok (.istore_n 3, 1) := by decide +kernel
theorem dX11_lay_242 : decode cX11_lay 242 = .ok (.aload_n 0, 1) := by decide +kernel
theorem dX11_lay_243 : decode cX11_lay 243 = .ok (.getfield 22, 3) := by decide +kernel
theorem dX11_lay_246 : decode cX11_lay 246 = .ok (.iconst 0, 1) := by decide +kernel
theorem dX11_lay_247 : decode cX11_lay 247 = .ok (.iaload, 1) := by decide +kernel
theorem dX11_lay_248 : decode cX11_lay 248 = .ok (.istore 4, 2) := by decide +kernel
theorem dX11_lay_250 : decode cX11_lay 250 = .ok (.iconst 0, 1) := by decide +kernel
theorem dX11_lay_251 : decode cX11_lay 251 = .ok (.istore 5, 2) := by decide +kernel
theorem dX11_lay_253 : decode cX11_lay 253 = .ok (.iload 5, 2) := by decide +kernel
theorem dX11_lay_255 : decode cX11_lay 255 = .ok (.aload_n 0, 1) := by decide +kernel
theorem dX11_lay_256 : decode cX11_lay 256 = .ok (.getfield 85, 3) := by decide +kernel
theorem dX11_lay_259 : decode cX11_lay 259 = .ok (.if_icmp .ge 57, 3) := by decide +kernel
theorem dX11_lay_262 : decode cX11_lay 262 = .ok (.aload_n 0, 1) := by decide +kernel
theorem dX11_lay_263 : decode cX11_lay 263 = .ok (.getfield 16, 3) := by decide +kernel
theorem dX11_lay_266 : decode cX11_lay 266 = .ok (.iload 5, 2) := by decide +kernel
theorem dX11_lay_268 : decode cX11_lay 268 = .ok (.aload_n 0, 1) := by decide +kernel
theorem dX11_lay_269 : decode cX11_lay 269 = .ok (.getfield 16, 3) := by decide +kernel
theorem dX11_lay_272 : decode cX11_lay 272 = .ok (.iload 5, 2) := by decide +kernel
theorem dX11_lay_274 : decode cX11_lay 274 = .ok (.iconst 1, 1) := by decide +kernel
theorem dX11_lay_275 : decode cX11_lay 275 = .ok (.iadd, 1) := by decide +kernel
theorem dX11_lay_276 : decode cX11_lay 276 = .ok (.iaload, 1) := by decide +kernel
theorem dX11_lay_277 : decode cX11_lay 277 = .ok (.iastore, 1) := by decide +kernel
theorem dX11_lay_278 : decode cX11_lay 278 = .ok (.aload_n 0, 1) := by decide +kernel
theorem dX11_lay_279 : decode cX11_lay 279 = .ok (.getfield 19, 3) := by decide +kernel
theorem dX11_lay_282 : decode cX11_lay 282 = .ok (.iload 5, 2) := by decide +kernel
theorem dX11_lay_284 : decode cX11_lay 284 = .ok (.aload_n 0, 1) := by decide +kernel
theorem dX11_lay_285 : decode cX11_lay 285 = .ok (.getfield 19, 3) := by decide +kernel
theorem dX11_lay_288 : decode cX11_lay 288 = .ok (.iload 5, 2) := by decide +kernel
theorem dX11_lay_290 : decode cX11_lay 290 = .ok (.iconst 1, 1) := by decide +kernel
theorem dX11_lay_291 : decode cX11_lay 291 = .ok (.iadd, 1) := by decide +kernel
theorem dX11_lay_292 : decode cX11_lay 292 = .ok (.iaload, 1) := by decide +kernel
theorem dX11_lay_293 : decode cX11_lay 293 = .ok (.iastore, 1) := by decide +kernel
theorem dX11_lay_294 : decode cX11_lay 294 = .ok (.aload_n 0, 1) := by decide +kernel
theorem dX11_lay_295 : decode cX11_lay 295 = .ok (.getfield 22, 3) := by decide +kernel
theorem dX11_lay_298 : decode cX11_lay 298 = .ok (.iload 5, 2) := by decide +kernel
theorem dX11_lay_300 : decode cX11_lay 300 = .ok (.aload_n 0, 1) := by decide +kernel
theorem dX11_lay_301 : decode cX11_lay 301 = .ok (.getfield 22, 3) := by decide +kernel
theorem dX11_lay_304 : decode cX11_lay 304 = .ok (.iload 5, 2) := by decide +kernel
theorem dX11_lay_306 : decode cX11_lay 306 = .ok (.iconst 1, 1) := by decide +kernel
theorem dX11_lay_307 : decode cX11_lay 307 = .ok (.iadd, 1) := by decide +kernel
theorem dX11_lay_308 : decode cX11_lay 308 = .ok (.iaload, 1) := by decide +kernel
theorem dX11_lay_309 : decode cX11_lay 309 = .ok (.iastore, 1) := by decide +kernel
theorem dX11_lay_310 : decode cX11_lay 310 = .ok (.iinc 5 1, 3) := by decide +kernel
theorem dX11_lay_313 : decode cX11_lay 313 = .ok (.goto (-60), 3) := by decide +kernel
theorem dX11_lay_316 : decode cX11_lay 316 = .ok (.aload_n 0, 1) := by decide +kernel
theorem dX11_lay_317 : decode cX11_lay 317 = .ok (.getfield 19, 3) := by decide +kernel
theorem dX11_lay_320 : decode cX11_lay 320 = .ok (.aload_n 0, 1) := by decide +kernel
theorem dX11_lay_321 : decode cX11_lay 321 = .ok (.getfield 85, 3) := by decide +kernel
theorem dX11_lay_324 : decode cX11_lay 324 = .ok (.iconst 1, 1) := by decide +kernel
theorem dX11_lay_325 : decode cX11_lay 325 = .ok (.isub, 1) := by decide +kernel
theorem dX11_lay_326 : decode cX11_lay 326 = .ok (.dup2, 1) := by decide +kernel
theorem dX11_lay_327 : decode cX11_lay 327 = .ok (.iaload, 1) := by decide +kernel
theorem dX11_lay_328 : decode cX11_lay 328 = .ok (.iload_n 3, 1) := by decide +kernel
theorem dX11_lay_329 : decode cX11_lay 329 = .ok (.iadd, 1) := by decide +kernel
theorem dX11_lay_330 : decode cX11_lay 330 = .ok (.iastore, 1) := by decide +kernel
theorem dX11_lay_331 : decode cX11_lay 331 = .ok (.aload_n 0, 1) := by decide +kernel
theorem dX11_lay_332 : decode cX11_lay 332 = .ok (.getfield 22, 3) := by decide +kernel
theorem dX11_lay_335 : decode cX11_lay 335 = .ok (.aload_n 0, 1) := by decide +kernel
theorem dX11_lay_336 : decode cX11_lay 336 = .ok (.getfield 85, 3) := by decide +kernel
theorem dX11_lay_339 : decode cX11_lay 339 = .ok (.iconst 1, 1) := by decide +kernel
theorem dX11_lay_340 : decode cX11_lay 340 = .ok (.isub, 1) := by decide +kernel
theorem dX11_lay_341 : decode cX11_lay 341 = .ok (.dup2, 1) := by decide +kernel
theorem dX11_lay_342 : decode cX11_lay 342 = .ok (.iaload, 1) := by decide +kernel
theorem dX11_lay_343 : decode cX11_lay 343 = .ok (.iload 4, 2) := by decide +kernel
theorem dX11_lay_345 : decode cX11_lay 345 = .ok (.iadd, 1) := by decide +kernel
theorem dX11_lay_346 : decode cX11_lay 346 = .ok (.iastore, 1) := by decide +kernel
theorem dX11_lay_347 : decode cX11_lay 347 = .ok (.return_, 1) := by decide +kernel
set_option maxRecDepth 20000 in
theorem ggX11_layNow_X11_lay : GoodIn wsX11_layNow wsX11_lay := goodIn_r _ [6, 7, 1, 8, 9, 10, 11, 12, 5, 13, 14, 15, 16, 17, 18, 19, 20, 21, 22, 23, 24, 25, 26, 27, 28, 29, 30, 31, 32, 33, 34, 35, 36, 37, 38, 39, 40, 41, 42, 43, 44, 45, 46, 47] (by decide +kernel) (by decide +kernel)
set_option maxRecDepth 20000 in
theorem gX11_layNow_X11_lay : GoodIn wsX11_layNow (wsV RX11 97 RX11 yX11_lay wsX11_lay) := goodIn_app (goodIn_of _ (by decide +kernel)) ggX11_layNow_X11_lay
theorem dX11_layNow_0 : decode cX11_layNow 0 = .ok (.aload_n 0, 1) := by decide +kernel
theorem dX11_layNow_1 : decode cX11_layNow 1 = .ok (.aload_n 0, 1) := by decide +kernel
theorem dX11_layNow_2 : decode cX11_layNow 2 = .ok (.getfield 7, 3) := by decide +kernel
theorem dX11_layNow_5 : decode cX11_layNow 5 = .ok (.bipush 26, 2) := by decide +kernel
theorem dX11_layNow_7 : decode cX11_layNow 7 = .ok (.iaload, 1) := by decide +kernel
theorem dX11_layNow_8 : decode cX11_layNow 8 = .ok (.invokevirtual 97, 3) := by decide +kernel
theorem dX11_layNow_11 : decode cX11_layNow 11 = .ok (.return_, 1) := by decide +kernel
set_option maxRecDepth 20000 in
theorem ggX11_kind_X11_in : GoodIn wsX11_kind wsX11_in := goodIn_r _ [6] (by decide +kernel) (by decide +kernel)
set_option maxRecDepth 20000 in
theorem gX11_kind_X11_in : GoodIn wsX11_kind (va_wsS RX11 81 yX11_in wsX11_in) := goodIn_app (goodIn_of _ (by decide +kernel)) ggX11_kind_X11_in
theorem dX11_kind_0 : decode cX11_kind 0 = .ok (.iload_n 1, 1) := by decide +kernel
theorem dX11_kind_1 : decode cX11_kind 1 = .ok (.i2l, 1) := by decide +kernel
theorem dX11_kind_2 : decode cX11_kind 2 = .ok (.lconst 0, 1) := by decide +kernel
theorem dX11_kind_3 : decode cX11_kind 3 = .ok (.ldc2_w 100, 3) := by decide +kernel
theorem dX11_kind_6 : decode cX11_kind 6 = .ok (.invokestatic 81, 3) := by decide +kernel
theorem dX11_kind_9 : decode cX11_kind 9 = .ok (.ifCond .ne 5, 3) := by decide +kernel
theorem dX11_kind_12 : decode cX11_kind 12 = .ok (.iconst (-1), 1) := by decide +kernel
theorem dX11_kind_13 : decode cX11_kind 13 = .ok (.ireturn, 1) := by decide +kernel
theorem dX11_kind_14 : decode cX11_kind 14 = .ok (.aload_n 0, 1) := by decide +kernel
theorem dX11_kind_15 : decode cX11_kind 15 = .ok (.getfield 7, 3) := by decide +kernel
theorem dX11_kind_18 : decode cX11_kind 18 = .ok (.iconst 0, 1) := by decide +kernel
theorem dX11_kind_19 : decode cX11_kind 19 = .ok (.iaload, 1) := by decide +kernel
theorem dX11_kind_20 : decode cX11_kind 20 = .ok (.istore_n 2, 1) := by decide +kernel
theorem dX11_kind_21 : decode cX11_kind 21 = .ok (.aload_n 0, 1) := by decide +kernel
theorem dX11_kind_22 : decode cX11_kind 22 = .ok (.getfield 7, 3) := by decide +kernel
theorem dX11_kind_25 : decode cX11_kind 25 = .ok (.iconst 0, 1) := by decide +kernel
theorem dX11_kind_26 : decode cX11_kind 26 = .ok (.iload_n 1, 1) := by decide +kernel
theorem dX11_kind_27 : decode cX11_kind 27 = .ok (.iastore, 1) := by decide +kernel
theorem dX11_kind_28 : decode cX11_kind 28 = .ok (.aload_n 0, 1) := by decide +kernel
theorem dX11_kind_29 : decode cX11_kind 29 = .ok (.getfield 7, 3) := by decide +kernel
theorem dX11_kind_32 : decode cX11_kind 32 = .ok (.bipush 26, 2) := by decide +kernel
theorem dX11_kind_34 : decode cX11_kind 34 = .ok (.iconst 0, 1) := by decide +kernel
theorem dX11_kind_35 : decode cX11_kind 35 = .ok (.iastore, 1) := by decide +kernel
theorem dX11_kind_36 : decode cX11_kind 36 = .ok (.iload_n 2, 1) := by decide +kernel
theorem dX11_kind_37 : decode cX11_kind 37 = .ok (.ireturn, 1) := by decide +kernel
set_option maxRecDepth 20000 in
theorem ggX11_link_X11_in : GoodIn wsX11_link wsX11_in := goodIn_r _ [6] (by decide +kernel) (by decide +kernel)
set_option maxRecDepth 20000 in
theorem gX11_link_X11_in : GoodIn wsX11_link (va_wsS RX11 81 yX11_in wsX11_in) := goodIn_app (goodIn_of _ (by decide +kernel)) ggX11_link_X11_in
theorem dX11_link_0 : decode cX11_link 0 = .ok (.iload_n 1, 1) := by decide +kernel
theorem dX11_link_1 : decode cX11_link 1 = .ok (.i2l, 1) := by decide +kernel
theorem dX11_link_2 : decode cX11_link 2 = .ok (.lconst 1, 1) := by decide +kernel
theorem dX11_link_3 : decode cX11_link 3 = .ok (.ldc2_w 102, 3) := by decide +kernel
theorem dX11_link_6 : decode cX11_link 6 = .ok (.invokestatic 81, 3) := by decide +kernel
theorem dX11_link_9 : decode cX11_link 9 = .ok (.ifCond .ne 5, 3) := by decide +kernel
theorem dX11_link_12 : decode cX11_link 12 = .ok (.iconst (-1), 1) := by decide +kernel
theorem dX11_link_13 : decode cX11_link 13 = .ok (.ireturn, 1) := by decide +kernel
theorem dX11_link_14 : decode cX11_link 14 = .ok (.aload_n 0, 1) := by decide +kernel
theorem dX11_link_15 : decode cX11_link 15 = .ok (.getfield 7, 3) := by decide +kernel
theorem dX11_link_18 : decode cX11_link 18 = .ok (.iconst 1, 1) := by decide +kernel
theorem dX11_link_19 : decode cX11_link 19 = .ok (.iaload, 1) := by decide +kernel
theorem dX11_link_20 : decode cX11_link 20 = .ok (.bipush 24, 2) := by decide +kernel
theorem dX11_link_22 : decode cX11_link 22 = .ok (.if_icmp .ne 6, 3) := by decide +kernel
theorem dX11_link_25 : decode cX11_link 25 = .ok (.bipush (-3), 2) := by decide +kernel
theorem dX11_link_27 : decode cX11_link 27 = .ok (.ireturn, 1) := by decide +kernel
theorem dX11_link_28 : decode cX11_link 28 = .ok (.aload_n 0, 1) := by decide +kernel
theorem dX11_link_29 : decode cX11_link 29 = .ok (.getfield 7, 3) := by decide +kernel
theorem dX11_link_32 : decode cX11_link 32 = .ok (.iconst 2, 1) := by decide +kernel
theorem dX11_link_33 : decode cX11_link 33 = .ok (.aload_n 0, 1) := by decide +kernel
theorem dX11_link_34 : decode cX11_link 34 = .ok (.getfield 7, 3) := by decide +kernel
theorem dX11_link_37 : decode cX11_link 37 = .ok (.iconst 1, 1) := by decide +kernel
theorem dX11_link_38 : decode cX11_link 38 = .ok (.iaload, 1) := by decide +kernel
theorem dX11_link_39 : decode cX11_link 39 = .ok (.iadd, 1) := by decide +kernel
theorem dX11_link_40 : decode cX11_link 40 = .ok (.iload_n 1, 1) := by decide +kernel
theorem dX11_link_41 : decode cX11_link 41 = .ok (.iastore, 1) := by decide +kernel
theorem dX11_link_42 : decode cX11_link 42 = .ok (.aload_n 0, 1) := by decide +kernel
theorem dX11_link_43 : decode cX11_link 43 = .ok (.getfield 7, 3) := by decide +kernel
theorem dX11_link_46 : decode cX11_link 46 = .ok (.iconst 1, 1) := by decide +kernel
theorem dX11_link_47 : decode cX11_link 47 = .ok (.dup2, 1) := by decide +kernel
theorem dX11_link_48 : decode cX11_link 48 = .ok (.iaload, 1) := by decide +kernel
theorem dX11_link_49 : decode cX11_link 49 = .ok (.iconst 1, 1) := by decide +kernel
theorem dX11_link_50 : decode cX11_link 50 = .ok (.iadd, 1) := by decide +kernel
theorem dX11_link_51 : decode cX11_link 51 = .ok (.iastore, 1) := by decide +kernel
theorem dX11_link_52 : decode cX11_link 52 = .ok (.aload_n 0, 1) := by decide +kernel
theorem dX11_link_53 : decode cX11_link 53 = .ok (.getfield 7, 3) := by decide +kernel
theorem dX11_link_56 : decode cX11_link 56 = .ok (.iconst 1, 1) := by decide +kernel
theorem dX11_link_57 : decode cX11_link 57 = .ok (.iaload, 1) := by decide +kernel
theorem dX11_link_58 : decode cX11_link 58 = .ok (.ireturn, 1) := by decide +kernel
set_option maxRecDepth 20000 in
theorem ggX11_worth_X11_in : GoodIn wsX11_worth wsX11_in := goodIn_r _ [6] (by decide +kernel) (by decide +kernel)
set_option maxRecDepth 20000 in
theorem gX11_worth_X11_in : GoodIn wsX11_worth (va_wsS RX11 81 yX11_in wsX11_in) := goodIn_app (goodIn_of _ (by decide +kernel)) ggX11_worth_X11_in
theorem dX11_worth_0 : decode cX11_worth 0 = .ok (.iload_n 1, 1) := by decide +kernel
theorem dX11_worth_1 : decode cX11_worth 1 = .ok (.i2l, 1) := by decide +kernel
theorem dX11_worth_2 : decode cX11_worth 2 = .ok (.lconst 0, 1) := by decide +kernel
theorem dX11_worth_3 : decode cX11_worth 3 = .ok (.aload_n 0, 1) := by decide +kernel
theorem dX11_worth_4 : decode cX11_worth 4 = .ok (.getfield 7, 3) := by decide +kernel
theorem dX11_worth_7 : decode cX11_worth 7 = .ok (.iconst 1, 1) := by decide +kernel
theorem dX11_worth_8 : decode cX11_worth 8 = .ok (.iaload, 1) := by decide +kernel
theorem dX11_worth_9 : decode cX11_worth 9 = .ok (.iconst 1, 1) := by decide +kernel
theorem dX11_worth_10 : decode cX11_worth 10 = .ok (.isub, 1) := by decide +kernel
theorem dX11_worth_11 : decode cX11_worth 11 = .ok (.i2l, 1) := by decide +kernel
theorem dX11_worth_12 : decode cX11_worth 12 = .ok (.invokestatic 81, 3) := by decide +kernel
theorem dX11_worth_15 : decode cX11_worth 15 = .ok (.ifCond .eq 15, 3) := by decide +kernel
theorem dX11_worth_18 : decode cX11_worth 18 = .ok (.iload_n 2, 1) := by decide +kernel
theorem dX11_worth_19 : decode cX11_worth 19 = .ok (.i2l, 1) := by decide +kernel
theorem dX11_worth_20 : decode cX11_worth 20 = .ok (.lconst 1, 1) := by decide +kernel
theorem dX11_worth_21 : decode cX11_worth 21 = .ok (.ldc2_w 102, 3) := by decide +kernel
theorem dX11_worth_24 : decode cX11_worth 24 = .ok (.invokestatic 81, 3) := by decide +kernel
theorem dX11_worth_27 : decode cX11_worth 27 = .ok (.ifCond .ne 5, 3) := by decide +kernel
theorem dX11_worth_30 : decode cX11_worth 30 = .ok (.iconst (-1), 1) := by decide +kernel
theorem dX11_worth_31 : decode cX11_worth 31 = .ok (.ireturn, 1) := by decide +kernel
theorem dX11_worth_32 : decode cX11_worth 32 = .ok (.aload_n 0, 1) := by decide +kernel
theorem dX11_worth_33 : decode cX11_worth 33 = .ok (.getfield 7, 3) := by decide +kernel
theorem dX11_worth_36 : decode cX11_worth 36 = .ok (.iconst 2, 1) := by decide +kernel
theorem dX11_worth_37 : decode cX11_worth 37 = .ok (.iload_n 1, 1) := by decide +kernel
theorem dX11_worth_38 : decode cX11_worth 38 = .ok (.iadd, 1) := by decide +kernel
theorem dX11_worth_39 : decode cX11_worth 39 = .ok (.iaload, 1) := by decide +kernel
theorem dX11_worth_40 : decode cX11_worth 40 = .ok (.istore_n 3, 1) := by decide +kernel
theorem dX11_worth_41 : decode cX11_worth 41 = .ok (.aload_n 0, 1) := by decide +kernel
theorem dX11_worth_42 : decode cX11_worth 42 = .ok (.getfield 7, 3) := by decide +kernel
theorem dX11_worth_45 : decode cX11_worth 45 = .ok (.iconst 2, 1) := by decide +kernel
theorem dX11_worth_46 : decode cX11_worth 46 = .ok (.iload_n 1, 1) := by decide +kernel
theorem dX11_worth_47 : decode cX11_worth 47 = .ok (.iadd, 1) := by decide +kernel
theorem dX11_worth_48 : decode cX11_worth 48 = .ok (.iload_n 2, 1) := by decide +kernel
theorem dX11_worth_49 : decode cX11_worth 49 = .ok (.iastore, 1) := by decide +kernel
theorem dX11_worth_50 : decode cX11_worth 50 = .ok (.iload_n 3, 1) := by decide +kernel
theorem dX11_worth_51 : decode cX11_worth 51 = .ok (.ireturn, 1) := by decide +kernel
set_option maxRecDepth 20000 in
theorem ggX11_cut_X11_isNotch : GoodIn wsX11_cut wsX11_isNotch := goodIn_r _ [6, 7, 8, 9, 5, 10, 1, 11, 12, 13, 20, 21, 22, 23, 24, 25, 26, 27, 28, 29, 30, 31, 32, 33, 34, 35, 36, 37, 38, 39, 40, 41, 42, 43, 44, 45, 46, 47, 48, 49] (by decide +kernel) (by decide +kernel)
set_option maxRecDepth 20000 in
theorem gX11_cut_X11_isNotch : GoodIn wsX11_cut (wsV RX11 104 RX11 yX11_isNotch wsX11_isNotch) := goodIn_app (goodIn_of _ (by decide +kernel)) ggX11_cut_X11_isNotch
set_option maxRecDepth 20000 in
theorem ggX11_cut_X11_has : GoodIn wsX11_cut wsX11_has := goodIn_r _ [16] (by decide +kernel) (by decide +kernel)
set_option maxRecDepth 20000 in
theorem gX11_cut_X11_has : GoodIn wsX11_cut (va_wsS RX11 89 yX11_has wsX11_has) := goodIn_app (goodIn_of _ (by decide +kernel)) ggX11_cut_X11_has
set_option maxRecDepth 20000 in
theorem ggX11_cut_X11_ones : GoodIn wsX11_cut wsX11_ones := goodIn_r _ [19] (by decide +kernel) (by decide +kernel)
set_option maxRecDepth 20000 in
theorem gX11_cut_X11_ones : GoodIn wsX11_cut (va_wsS RX11 108 yX11_ones wsX11_ones) := goodIn_app (goodIn_of _ (by decide +kernel)) ggX11_cut_X11_ones
theorem dX11_cut_0 : decode cX11_cut 0 = .ok (.aload_n 0, 1) := by decide +kernel
theorem dX11_cut_1 : decode cX11_cut 1 = .ok (.iload_n 1, 1) := by decide +kernel
theorem dX11_cut_2 : decode cX11_cut 2 = .ok (.invokevirtual 104, 3) := by decide +kernel
theorem dX11_cut_5 : decode cX11_cut 5 = .ok (.ifCond .ne 5, 3) := by decide +kernel
theorem dX11_cut_8 : decode cX11_cut 8 = .ok (.iconst (-1), 1) := by decide +kernel
theorem dX11_cut_9 : decode cX11_cut 9 = .ok (.ireturn, 1) := by decide +kernel
theorem dX11_cut_10 : decode cX11_cut 10 = .ok (.aload_n 0, 1) := by decide +kernel
theorem dX11_cut_11 : decode cX11_cut 11 = .ok (.getfield 7, 3) := by decide +kernel
theorem dX11_cut_14 : decode cX11_cut 14 = .ok (.bipush 26, 2) := by decide +kernel
theorem dX11_cut_16 : decode cX11_cut 16 = .ok (.iaload, 1) := by decide +kernel
theorem dX11_cut_17 : decode cX11_cut 17 = .ok (.iload_n 1, 1) := by decide +kernel
theorem dX11_cut_18 : decode cX11_cut 18 = .ok (.invokestatic 89, 3) := by decide +kernel
theorem dX11_cut_21 : decode cX11_cut 21 = .ok (.ifCond .eq 6, 3) := by decide +kernel
theorem dX11_cut_24 : decode cX11_cut 24 = .ok (.bipush (-2), 2) := by decide +kernel
theorem dX11_cut_26 : decode cX11_cut 26 = .ok (.ireturn, 1) := by decide +kernel
theorem dX11_cut_27 : decode cX11_cut 27 = .ok (.aload_n 0, 1) := by decide +kernel
theorem dX11_cut_28 : decode cX11_cut 28 = .ok (.getfield 7, 3) := by decide +kernel
theorem dX11_cut_31 : decode cX11_cut 31 = .ok (.bipush 26, 2) := by decide +kernel
theorem dX11_cut_33 : decode cX11_cut 33 = .ok (.iaload, 1) := by decide +kernel
theorem dX11_cut_34 : decode cX11_cut 34 = .ok (.invokestatic 108, 3) := by decide +kernel
theorem dX11_cut_37 : decode cX11_cut 37 = .ok (.iconst 5, 1) := by decide +kernel
theorem dX11_cut_38 : decode cX11_cut 38 = .ok (.if_icmp .ne 6, 3) := by decide +kernel
theorem dX11_cut_41 : decode cX11_cut 41 = .ok (.bipush (-3), 2) := by decide +kernel
theorem dX11_cut_43 : decode cX11_cut 43 = .ok (.ireturn, 1) := by decide +kernel
theorem dX11_cut_44 : decode cX11_cut 44 = .ok (.aload_n 0, 1) := by decide +kernel
theorem dX11_cut_45 : decode cX11_cut 45 = .ok (.getfield 7, 3) := by decide +kernel
theorem dX11_cut_48 : decode cX11_cut 48 = .ok (.bipush 26, 2) := by decide +kernel
theorem dX11_cut_50 : decode cX11_cut 50 = .ok (.dup2, 1) := by decide +kernel
theorem dX11_cut_51 : decode cX11_cut 51 = .ok (.iaload, 1) := by decide +kernel
theorem dX11_cut_52 : decode cX11_cut 52 = .ok (.iconst 1, 1) := by decide +kernel
theorem dX11_cut_53 : decode cX11_cut 53 = .ok (.iload_n 1, 1) := by decide +kernel
theorem dX11_cut_54 : decode cX11_cut 54 = .ok (.ishl, 1) := by decide +kernel
theorem dX11_cut_55 : decode cX11_cut 55 = .ok (.ior, 1) := by decide +kernel
theorem dX11_cut_56 : decode cX11_cut 56 = .ok (.iastore, 1) := by decide +kernel
theorem dX11_cut_57 : decode cX11_cut 57 = .ok (.aload_n 0, 1) := by decide +kernel
theorem dX11_cut_58 : decode cX11_cut 58 = .ok (.getfield 7, 3) := by decide +kernel
theorem dX11_cut_61 : decode cX11_cut 61 = .ok (.bipush 26, 2) := by decide +kernel
theorem dX11_cut_63 : decode cX11_cut 63 = .ok (.iaload, 1) := by decide +kernel
theorem dX11_cut_64 : decode cX11_cut 64 = .ok (.invokestatic 108, 3) := by decide +kernel
theorem dX11_cut_67 : decode cX11_cut 67 = .ok (.ireturn, 1) := by decide +kernel
set_option maxRecDepth 20000 in
theorem ggX11_mend_X11_isNotch : GoodIn wsX11_mend wsX11_isNotch := goodIn_r _ [6, 7, 8, 9, 5, 10, 1, 11, 12, 13, 20, 21, 22, 23, 24, 25, 26, 27, 28, 29, 30, 31, 32, 33, 34, 35, 36, 37, 38, 39, 40, 41, 42, 43, 44, 45, 46, 47, 48, 49] (by decide +kernel) (by decide +kernel)
set_option maxRecDepth 20000 in
theorem gX11_mend_X11_isNotch : GoodIn wsX11_mend (wsV RX11 104 RX11 yX11_isNotch wsX11_isNotch) := goodIn_app (goodIn_of _ (by decide +kernel)) ggX11_mend_X11_isNotch
set_option maxRecDepth 20000 in
theorem ggX11_mend_X11_has : GoodIn wsX11_mend wsX11_has := goodIn_r _ [16] (by decide +kernel) (by decide +kernel)
set_option maxRecDepth 20000 in
theorem gX11_mend_X11_has : GoodIn wsX11_mend (va_wsS RX11 89 yX11_has wsX11_has) := goodIn_app (goodIn_of _ (by decide +kernel)) ggX11_mend_X11_has
set_option maxRecDepth 20000 in
theorem ggX11_mend_X11_ones : GoodIn wsX11_mend wsX11_ones := goodIn_r _ [19] (by decide +kernel) (by decide +kernel)
set_option maxRecDepth 20000 in
theorem gX11_mend_X11_ones : GoodIn wsX11_mend (va_wsS RX11 108 yX11_ones wsX11_ones) := goodIn_app (goodIn_of _ (by decide +kernel)) ggX11_mend_X11_ones
theorem dX11_mend_0 : decode cX11_mend 0 = .ok (.aload_n 0, 1) := by decide +kernel
theorem dX11_mend_1 : decode cX11_mend 1 = .ok (.iload_n 1, 1) := by decide +kernel
theorem dX11_mend_2 : decode cX11_mend 2 = .ok (.invokevirtual 104, 3) := by decide +kernel
theorem dX11_mend_5 : decode cX11_mend 5 = .ok (.ifCond .ne 5, 3) := by decide +kernel
theorem dX11_mend_8 : decode cX11_mend 8 = .ok (.iconst (-1), 1) := by decide +kernel
theorem dX11_mend_9 : decode cX11_mend 9 = .ok (.ireturn, 1) := by decide +kernel
theorem dX11_mend_10 : decode cX11_mend 10 = .ok (.aload_n 0, 1) := by decide +kernel
theorem dX11_mend_11 : decode cX11_mend 11 = .ok (.getfield 7, 3) := by decide +kernel
theorem dX11_mend_14 : decode cX11_mend 14 = .ok (.bipush 26, 2) := by decide +kernel
theorem dX11_mend_16 : decode cX11_mend 16 = .ok (.iaload, 1) := by decide +kernel
theorem dX11_mend_17 : decode cX11_mend 17 = .ok (.iload_n 1, 1) := by decide +kernel
theorem dX11_mend_18 : decode cX11_mend 18 = .ok (.invokestatic 89, 3) := by decide +kernel
theorem dX11_mend_21 : decode cX11_mend 21 = .ok (.ifCond .ne 6, 3) := by decide +kernel
theorem dX11_mend_24 : decode cX11_mend 24 = .ok (.bipush (-2), 2) := by decide +kernel
theorem dX11_mend_26 : decode cX11_mend 26 = .ok (.ireturn, 1) := by decide +kernel
theorem dX11_mend_27 : decode cX11_mend 27 = .ok (.aload_n 0, 1) := by decide +kernel
theorem dX11_mend_28 : decode cX11_mend 28 = .ok (.getfield 7, 3) := by decide +kernel
theorem dX11_mend_31 : decode cX11_mend 31 = .ok (.bipush 26, 2) := by decide +kernel
theorem dX11_mend_33 : decode cX11_mend 33 = .ok (.dup2, 1) := by decide +kernel
theorem dX11_mend_34 : decode cX11_mend 34 = .ok (.iaload, 1) := by decide +kernel
theorem dX11_mend_35 : decode cX11_mend 35 = .ok (.iconst 1, 1) := by decide +kernel
theorem dX11_mend_36 : decode cX11_mend 36 = .ok (.iload_n 1, 1) := by decide +kernel
theorem dX11_mend_37 : decode cX11_mend 37 = .ok (.ishl, 1) := by decide +kernel
theorem dX11_mend_38 : decode cX11_mend 38 = .ok (.iconst (-1), 1) := by decide +kernel
theorem dX11_mend_39 : decode cX11_mend 39 = .ok (.ixor, 1) := by decide +kernel
theorem dX11_mend_40 : decode cX11_mend 40 = .ok (.iand, 1) := by decide +kernel
theorem dX11_mend_41 : decode cX11_mend 41 = .ok (.iastore, 1) := by decide +kernel
theorem dX11_mend_42 : decode cX11_mend 42 = .ok (.aload_n 0, 1) := by decide +kernel
theorem dX11_mend_43 : decode cX11_mend 43 = .ok (.getfield 7, 3) := by decide +kernel
theorem dX11_mend_46 : decode cX11_mend 46 = .ok (.bipush 26, 2) := by decide +kernel
theorem dX11_mend_48 : decode cX11_mend 48 = .ok (.iaload, 1) := by decide +kernel
theorem dX11_mend_49 : decode cX11_mend 49 = .ok (.invokestatic 108, 3) := by decide +kernel
theorem dX11_mend_52 : decode cX11_mend 52 = .ok (.ireturn, 1) := by decide +kernel
set_option maxRecDepth 20000 in
theorem ggX11_type_X11_in : GoodIn wsX11_type wsX11_in := goodIn_r _ [10] (by decide +kernel) (by decide +kernel)
set_option maxRecDepth 20000 in
theorem gX11_type_X11_in : GoodIn wsX11_type (va_wsS RX11 81 yX11_in wsX11_in) := goodIn_app (goodIn_of _ (by decide +kernel)) ggX11_type_X11_in
theorem dX11_type_0 : decode cX11_type 0 = .ok (.iload_n 3, 1) := by decide +kernel
theorem dX11_type_1 : decode cX11_type 1 = .ok (.i2l, 1) := by decide +kernel
theorem dX11_type_2 : decode cX11_type 2 = .ok (.lconst 1, 1) := by decide +kernel
theorem dX11_type_3 : decode cX11_type 3 = .ok (.ldc2_w 112, 3) := by decide +kernel
theorem dX11_type_6 : decode cX11_type 6 = .ok (.invokestatic 81, 3) := by decide +kernel
theorem dX11_type_9 : decode cX11_type 9 = .ok (.ifCond .ne 5, 3) := by decide +kernel
theorem dX11_type_12 : decode cX11_type 12 = .ok (.iconst (-1), 1) := by decide +kernel
theorem dX11_type_13 : decode cX11_type 13 = .ok (.ireturn, 1) := by decide +kernel
theorem dX11_type_14 : decode cX11_type 14 = .ok (.iconst 0, 1) := by decide +kernel
theorem dX11_type_15 : decode cX11_type 15 = .ok (.istore 4, 2) := by decide +kernel
theorem dX11_type_17 : decode cX11_type 17 = .ok (.iload 4, 2) := by decide +kernel
theorem dX11_type_19 : decode cX11_type 19 = .ok (.iload_n 3, 1) := by decide +kernel
theorem dX11_type_20 : decode cX11_type 20 = .ok (.if_icmp .ge 34, 3) := by decide +kernel
theorem dX11_type_23 : decode cX11_type 23 = .ok (.lload_n 1, 1) := by decide +kernel
theorem dX11_type_24 : decode cX11_type 24 = .ok (.bipush 8, 2) := by decide +kernel
theorem dX11_type_26 : decode cX11_type 26 = .ok (.iload 4, 2) := by decide +kernel
theorem dX11_type_28 : decode cX11_type 28 = .ok (.imul, 1) := by decide +kernel
theorem dX11_type_29 : decode cX11_type 29 = .ok (.lshr, 1) := by decide +kernel
theorem dX11_type_30 : decode cX11_type 30 = .ok (.ldc2_w 114, 3) := by decide +kernel
theorem dX11_type_33 : decode cX11_type 33 = .ok (.land, 1) := by decide +kernel
theorem dX11_type_34 : decode cX11_type 34 = .ok (.ldc2_w 116, 3) := by decide +kernel
theorem dX11_type_37 : decode cX11_type 37 = .ok (.ldc2_w 118, 3) := by decide +kernel
theorem dX11_type_40 : decode cX11_type 40 = .ok (.invokestatic 81, 3) := by decide +kernel
theorem dX11_type_43 : decode cX11_type 43 = .ok (.ifCond .ne 5, 3) := by decide +kernel
theorem dX11_type_46 : decode cX11_type 46 = .ok (.iconst (-1), 1) := by decide +kernel
theorem dX11_type_47 : decode cX11_type 47 = .ok (.ireturn, 1) := by decide +kernel
theorem dX11_type_48 : decode cX11_type 48 = .ok (.iinc 4 1, 3) := by decide +kernel
theorem dX11_type_51 : decode cX11_type 51 = .ok (.goto (-34), 3) := by decide +kernel
theorem dX11_type_54 : decode cX11_type 54 = .ok (.aload_n 0, 1) := by decide +kernel
theorem dX11_type_55 : decode cX11_type 55 = .ok (.getfield 120, 3) := by decide +kernel
theorem dX11_type_58 : decode cX11_type 58 = .ok (.iload_n 3, 1) := by decide +kernel
theorem dX11_type_59 : decode cX11_type 59 = .ok (.iadd, 1) := by decide +kernel
theorem dX11_type_60 : decode cX11_type 60 = .ok (.bipush 60, 2) := by decide +kernel
theorem dX11_type_62 : decode cX11_type 62 = .ok (.if_icmp .le 6, 3) := by decide +kernel
theorem dX11_type_65 : decode cX11_type 65 = .ok (.bipush (-3), 2) := by decide +kernel
theorem dX11_type_67 : decode cX11_type 67 = .ok (.ireturn, 1) := by decide +kernel
theorem dX11_type_68 : decode cX11_type 68 = .ok (.iload_n 3, 1) := by decide +kernel

theorem dX0_init_0 : decode cX0_init 0 = .ok (.aload_n 0, 1) := by decide +kernel
theorem dX0_init_1 : decode cX0_init 1 = .ok (.invokespecial 3, 3) := by decide +kernel
theorem dX0_init_4 : decode cX0_init 4 = .ok (.aload_n 0, 1) := by decide +kernel
theorem dX0_init_5 : decode cX0_init 5 = .ok (.iconst 5, 1) := by decide +kernel
theorem dX0_init_6 : decode cX0_init 6 = .ok (.newarray .boolean, 2) := by decide +kernel
theorem dX0_init_8 : decode cX0_init 8 = .ok (.putfield 9, 3) := by decide +kernel
theorem dX0_init_11 : decode cX0_init 11 = .ok (.aload_n 0, 1) := by decide +kernel
theorem dX0_init_12 : decode cX0_init 12 = .ok (.iconst 5, 1) := by decide +kernel
theorem dX0_init_13 : decode cX0_init 13 = .ok (.newarray .int, 2) := by decide +kernel
theorem dX0_init_15 : decode cX0_init 15 = .ok (.putfield 15, 3) := by decide +kernel
theorem dX0_init_18 : decode cX0_init 18 = .ok (.aload_n 0, 1) := by decide +kernel
theorem dX0_init_19 : decode cX0_init 19 = .ok (.iconst 5, 1) := by decide +kernel
theorem dX0_init_20 : decode cX0_init 20 = .ok (.iconst 4, 1) := by decide +kernel
theorem dX0_init_21 : decode cX0_init 21 = .ok (.multianewarray 19 2, 4) := by decide +kernel
theorem dX0_init_25 : decode cX0_init 25 = .ok (.putfield 21, 3) := by decide +kernel
theorem dX0_init_28 : decode cX0_init 28 = .ok (.return_, 1) := by decide +kernel
theorem dX0_forget_0 : decode cX0_forget 0 = .ok (.iconst 0, 1) := by decide +kernel
theorem dX0_forget_1 : decode cX0_forget 1 = .ok (.istore_n 1, 1) := by decide +kernel
theorem dX0_forget_2 : decode cX0_forget 2 = .ok (.iload_n 1, 1) := by decide +kernel
theorem dX0_forget_3 : decode cX0_forget 3 = .ok (.iconst 4, 1) := by decide +kernel
theorem dX0_forget_4 : decode cX0_forget 4 = .ok (.if_icmp .gt 16, 3) := by decide +kernel
theorem dX0_forget_7 : decode cX0_forget 7 = .ok (.aload_n 0, 1) := by decide +kernel
theorem dX0_forget_8 : decode cX0_forget 8 = .ok (.getfield 9, 3) := by decide +kernel
theorem dX0_forget_11 : decode cX0_forget 11 = .ok (.iload_n 1, 1) := by decide +kernel
theorem dX0_forget_12 : decode cX0_forget 12 = .ok (.iconst 0, 1) := by decide +kernel
theorem dX0_forget_13 : decode cX0_forget 13 = .ok (.bastore, 1) := by decide +kernel
theorem dX0_forget_14 : decode cX0_forget 14 = .ok (.iinc 1 1, 3) := by decide +kernel
theorem dX0_forget_17 : decode cX0_forget 17 = .ok (.goto (-15), 3) := by decide +kernel
theorem dX0_forget_20 : decode cX0_forget 20 = .ok (.return_, 1) := by decide +kernel
theorem dX0_offer_0 : decode cX0_offer 0 = .ok (.iload_n 2, 1) := by decide +kernel
theorem dX0_offer_1 : decode cX0_offer 1 = .ok (.aload_n 0, 1) := by decide +kernel
theorem dX0_offer_2 : decode cX0_offer 2 = .ok (.getfield 15, 3) := by decide +kernel
theorem dX0_offer_5 : decode cX0_offer 5 = .ok (.iload_n 1, 1) := by decide +kernel
theorem dX0_offer_6 : decode cX0_offer 6 = .ok (.iaload, 1) := by decide +kernel
theorem dX0_offer_7 : decode cX0_offer 7 = .ok (.if_icmp .le 23, 3) := by decide +kernel
theorem dX0_offer_10 : decode cX0_offer 10 = .ok (.aload_n 0, 1) := by decide +kernel
theorem dX0_offer_11 : decode cX0_offer 11 = .ok (.getfield 15, 3) := by decide +kernel
theorem dX0_offer_14 : decode cX0_offer 14 = .ok (.iload_n 1, 1) := by decide +kernel
theorem dX0_offer_15 : decode cX0_offer 15 = .ok (.iload_n 2, 1) := by decide +kernel
theorem dX0_offer_16 : decode cX0_offer 16 = .ok (.iastore, 1) := by decide +kernel
theorem dX0_offer_17 : decode cX0_offer 17 = .ok (.aload_n 3, 1) := by decide +kernel
theorem dX0_offer_18 : decode cX0_offer 18 = .ok (.iconst 0, 1) := by decide +kernel
theorem dX0_offer_19 : decode cX0_offer 19 = .ok (.aload_n 0, 1) := by decide +kernel
theorem dX0_offer_20 : decode cX0_offer 20 = .ok (.getfield 21, 3) := by decide +kernel
theorem dX0_offer_23 : decode cX0_offer 23 = .ok (.iload_n 1, 1) := by decide +kernel
theorem dX0_offer_24 : decode cX0_offer 24 = .ok (.aaload, 1) := by decide +kernel
theorem dX0_offer_25 : decode cX0_offer 25 = .ok (.iconst 0, 1) := by decide +kernel
theorem dX0_offer_26 : decode cX0_offer 26 = .ok (.iload_n 1, 1) := by decide +kernel
theorem dX0_offer_27 : decode cX0_offer 27 = .ok (.invokestatic 24, 3) := by decide +kernel
theorem dX0_offer_30 : decode cX0_offer 30 = .ok (.return_, 1) := by decide +kernel
set_option maxRecDepth 20000 in
theorem ggX1_init_X1_append : GoodIn wsX1_init wsX1_append := goodIn_r _ [13, 5, 14, 6, 15, 16, 17, 18, 19, 20] (by decide +kernel) (by decide +kernel)
set_option maxRecDepth 20000 in
theorem gX1_init_X1_append : GoodIn wsX1_init (wsV RX1 25 RX1 yX1_append wsX1_append) := goodIn_app (goodIn_of _ (by decide +kernel)) ggX1_init_X1_append
theorem dX1_init_0 : decode cX1_init 0 = .ok (.aload_n 0, 1) := by decide +kernel
theorem dX1_init_1 : decode cX1_init 1 = .ok (.invokespecial 3, 3) := by decide +kernel
theorem dX1_init_4 : decode cX1_init 4 = .ok (.aload_n 0, 1) := by decide +kernel
theorem dX1_init_5 : decode cX1_init 5 = .ok (.bipush 24, 2) := by decide +kernel
theorem dX1_init_7 : decode cX1_init 7 = .ok (.newarray .int, 2) := by decide +kernel
theorem dX1_init_9 : decode cX1_init 9 = .ok (.putfield 9, 3) := by decide +kernel
theorem dX1_init_12 : decode cX1_init 12 = .ok (.aload_n 0, 1) := by decide +kernel
theorem dX1_init_13 : decode cX1_init 13 = .ok (.bipush 25, 2) := by decide +kernel
theorem dX1_init_15 : decode cX1_init 15 = .ok (.newarray .int, 2) := by decide +kernel
theorem dX1_init_17 : decode cX1_init 17 = .ok (.putfield 15, 3) := by decide +kernel
theorem dX1_init_20 : decode cX1_init 20 = .ok (.aload_n 0, 1) := by decide +kernel
theorem dX1_init_21 : decode cX1_init 21 = .ok (.iconst 5, 1) := by decide +kernel
theorem dX1_init_22 : decode cX1_init 22 = .ok (.newarray .int, 2) := by decide +kernel
theorem dX1_init_24 : decode cX1_init 24 = .ok (.putfield 18, 3) := by decide +kernel
theorem dX1_init_27 : decode cX1_init 27 = .ok (.aload_n 0, 1) := by decide +kernel
theorem dX1_init_28 : decode cX1_init 28 = .ok (.iconst 0, 1) := by decide +kernel
theorem dX1_init_29 : decode cX1_init 29 = .ok (.putfield 21, 3) := by decide +kernel
theorem dX1_init_32 : decode cX1_init 32 = .ok (.aload_n 0, 1) := by decide +kernel
theorem dX1_init_33 : decode cX1_init 33 = .ok (.iconst 1, 1) := by decide +kernel
theorem dX1_init_34 : decode cX1_init 34 = .ok (.invokevirtual 25, 3) := by decide +kernel
theorem dX1_init_37 : decode cX1_init 37 = .ok (.return_, 1) := by decide +kernel
theorem dX1_begin_0 : decode cX1_begin 0 = .ok (.aload_n 0, 1) := by decide +kernel
theorem dX1_begin_1 : decode cX1_begin 1 = .ok (.iload_n 1, 1) := by decide +kernel
theorem dX1_begin_2 : decode cX1_begin 2 = .ok (.putfield 21, 3) := by decide +kernel
theorem dX1_begin_5 : decode cX1_begin 5 = .ok (.aload_n 0, 1) := by decide +kernel
theorem dX1_begin_6 : decode cX1_begin 6 = .ok (.iconst 0, 1) := by decide +kernel
theorem dX1_begin_7 : decode cX1_begin 7 = .ok (.putfield 29, 3) := by decide +kernel
theorem dX1_begin_10 : decode cX1_begin 10 = .ok (.aload_n 0, 1) := by decide +kernel
theorem dX1_begin_11 : decode cX1_begin 11 = .ok (.iconst 0, 1) := by decide +kernel
theorem dX1_begin_12 : decode cX1_begin 12 = .ok (.putfield 32, 3) := by decide +kernel
theorem dX1_begin_15 : decode cX1_begin 15 = .ok (.return_, 1) := by decide +kernel
theorem dX1_append_0 : decode cX1_append 0 = .ok (.aload_n 0, 1) := by decide +kernel
theorem dX1_append_1 : decode cX1_append 1 = .ok (.getfield 9, 3) := by decide +kernel
theorem dX1_append_4 : decode cX1_append 4 = .ok (.aload_n 0, 1) := by decide +kernel
theorem dX1_append_5 : decode cX1_append 5 = .ok (.getfield 29, 3) := by decide +kernel
theorem dX1_append_8 : decode cX1_append 8 = .ok (.iload_n 1, 1) := by decide +kernel
theorem dX1_append_9 : decode cX1_append 9 = .ok (.iastore, 1) := by decide +kernel
theorem dX1_append_10 : decode cX1_append 10 = .ok (.aload_n 0, 1) := by decide +kernel
theorem dX1_append_11 : decode cX1_append 11 = .ok (.getfield 15, 3) := by decide +kernel
theorem dX1_append_14 : decode cX1_append 14 = .ok (.aload_n 0, 1) := by decide +kernel
theorem dX1_append_15 : decode cX1_append 15 = .ok (.getfield 29, 3) := by decide +kernel
theorem dX1_append_18 : decode cX1_append 18 = .ok (.iconst 1, 1) := by decide +kernel
theorem dX1_append_19 : decode cX1_append 19 = .ok (.iadd, 1) := by decide +kernel
theorem dX1_append_20 : decode cX1_append 20 = .ok (.aload_n 0, 1) := by decide +kernel
theorem dX1_append_21 : decode cX1_append 21 = .ok (.getfield 15, 3) := by decide +kernel
theorem dX1_append_24 : decode cX1_append 24 = .ok (.aload_n 0, 1) := by decide +kernel
theorem dX1_append_25 : decode cX1_append 25 = .ok (.getfield 29, 3) := by decide +kernel
theorem dX1_append_28 : decode cX1_append 28 = .ok (.iaload, 1) := by decide +kernel
theorem dX1_append_29 : decode cX1_append 29 = .ok (.iload_n 1, 1) := by decide +kernel
theorem dX1_append_30 : decode cX1_append 30 = .ok (.iadd, 1) := by decide +kernel
theorem dX1_append_31 : decode cX1_append 31 = .ok (.iastore, 1) := by decide +kernel
theorem dX1_append_32 : decode cX1_append 32 = .ok (.aload_n 0, 1) := by decide +kernel
theorem dX1_append_33 : decode cX1_append 33 = .ok (.dup, 1) := by decide +kernel
theorem dX1_append_34 : decode cX1_append 34 = .ok (.getfield 29, 3) := by decide +kernel
theorem dX1_append_37 : decode cX1_append 37 = .ok (.iconst 1, 1) := by decide +kernel
theorem dX1_append_38 : decode cX1_append 38 = .ok (.iadd, 1) := by decide +kernel
theorem dX1_append_39 : decode cX1_append 39 = .ok (.putfield 29, 3) := by decide +kernel
theorem dX1_append_42 : decode cX1_append 42 = .ok (.return_, 1) := by decide +kernel
theorem dX1_value_0 : decode cX1_value 0 = .ok (.aload_n 0, 1) := by decide +kernel
theorem dX1_value_1 : decode cX1_value 1 = .ok (.getfield 9, 3) := by decide +kernel
theorem dX1_value_4 : decode cX1_value 4 = .ok (.iload_n 1, 1) := by decide +kernel
theorem dX1_value_5 : decode cX1_value 5 = .ok (.iload_n 2, 1) := by decide +kernel
theorem dX1_value_6 : decode cX1_value 6 = .ok (.iastore, 1) := by decide +kernel
theorem dX1_value_7 : decode cX1_value 7 = .ok (.iload_n 1, 1) := by decide +kernel
theorem dX1_value_8 : decode cX1_value 8 = .ok (.istore_n 3, 1) := by decide +kernel
theorem dX1_value_9 : decode cX1_value 9 = .ok (.iload_n 3, 1) := by decide +kernel
theorem dX1_value_10 : decode cX1_value 10 = .ok (.aload_n 0, 1) := by decide +kernel
theorem dX1_value_11 : decode cX1_value 11 = .ok (.getfield 29, 3) := by decide +kernel
theorem dX1_value_14 : decode cX1_value 14 = .ok (.if_icmp .ge 30, 3) := by decide +kernel
theorem dX1_value_17 : decode cX1_value 17 = .ok (.aload_n 0, 1) := by decide +kernel
theorem dX1_value_18 : decode cX1_value 18 = .ok (.getfield 15, 3) := by decide +kernel
theorem dX1_value_21 : decode cX1_value 21 = .ok (.iload_n 3, 1) := by decide +kernel
theorem dX1_value_22 : decode cX1_value 22 = .ok (.iconst 1, 1) := by decide +kernel
theorem dX1_value_23 : decode cX1_value 23 = .ok (.iadd, 1) := by decide +kernel
theorem dX1_value_24 : decode cX1_value 24 = .ok (.aload_n 0, 1) := by decide +kernel
theorem dX1_value_25 : decode cX1_value 25 = .ok (.getfield 15, 3) := by decide +kernel
theorem dX1_value_28 : decode cX1_value 28 = .ok (.iload_n 3, 1) := by decide +kernel
theorem dX1_value_29 : decode cX1_value 29 = .ok (.iaload, 1) := by decide +kernel
theorem dX1_value_30 : decode cX1_value 30 = .ok (.aload_n 0, 1) := by decide +kernel
theorem dX1_value_31 : decode cX1_value 31 = .ok (.getfield 9, 3) := by decide +kernel
theorem dX1_value_34 : decode cX1_value 34 = .ok (.iload_n 3, 1) := by decide +kernel
theorem dX1_value_35 : decode cX1_value 35 = .ok (.iaload, 1) := by decide +kernel
theorem dX1_value_36 : decode cX1_value 36 = .ok (.iadd, 1) := by decide +kernel
theorem dX1_value_37 : decode cX1_value 37 = .ok (.iastore, 1) := by decide +kernel
theorem dX1_value_38 : decode cX1_value 38 = .ok (.iinc 3 1, 3) := by decide +kernel
theorem dX1_value_41 : decode cX1_value 41 = .ok (.goto (-32), 3) := by decide +kernel
theorem dX1_value_44 : decode cX1_value 44 = .ok (.return_, 1) := by decide +kernel
theorem dX1_whole_0 : decode cX1_whole 0 = .ok (.aload_n 0, 1) := by decide +kernel
theorem dX1_whole_1 : decode cX1_whole 1 = .ok (.getfield 15, 3) := by decide +kernel
theorem dX1_whole_4 : decode cX1_whole 4 = .ok (.aload_n 0, 1) := by decide +kernel
theorem dX1_whole_5 : decode cX1_whole 5 = .ok (.getfield 29, 3) := by decide +kernel
theorem dX1_whole_8 : decode cX1_whole 8 = .ok (.iaload, 1) := by decide +kernel
theorem dX1_whole_9 : decode cX1_whole 9 = .ok (.ireturn, 1) := by decide +kernel
theorem dX1_losesLinks_0 : decode cX1_losesLinks 0 = .ok (.aload_n 0, 1) := by decide +kernel
theorem dX1_losesLinks_1 : decode cX1_losesLinks 1 = .ok (.getfield 21, 3) := by decide +kernel
theorem dX1_losesLinks_4 : decode cX1_losesLinks 4 = .ok (.ifCond .eq 11, 3) := by decide +kernel
theorem dX1_losesLinks_7 : decode cX1_losesLinks 7 = .ok (.aload_n 0, 1) := by decide +kernel
theorem dX1_losesLinks_8 : decode cX1_losesLinks 8 = .ok (.getfield 21, 3) := by decide +kernel
theorem dX1_losesLinks_11 : decode cX1_losesLinks 11 = .ok (.iconst 1, 1) := by decide +kernel
theorem dX1_losesLinks_12 : decode cX1_losesLinks 12 = .ok (.if_icmp .ne 7, 3) := by decide +kernel
theorem dX1_losesLinks_15 : decode cX1_losesLinks 15 = .ok (.iconst 1, 1) := by decide +kernel
theorem dX1_losesLinks_16 : decode cX1_losesLinks 16 = .ok (.goto 4, 3) := by decide +kernel
theorem dX1_losesLinks_19 : decode cX1_losesLinks 19 = .ok (.iconst 0, 1) := by decide +kernel
theorem dX1_losesLinks_20 : decode cX1_losesLinks 20 = .ok (.ireturn, 1) := by decide +kernel
set_option maxRecDepth 20000 in
theorem ggX1_notches_X1_losesLinks : GoodIn wsX1_notches wsX1_losesLinks := goodIn_r _ [6, 7, 8, 9, 10, 11, 12, 13] (by decide +kernel) (by decide +kernel)
set_option maxRecDepth 20000 in
theorem gX1_notches_X1_losesLinks : GoodIn wsX1_notches (wsV RX1 35 RX1 yX1_losesLinks wsX1_losesLinks) := goodIn_app (goodIn_of _ (by decide +kernel)) ggX1_notches_X1_losesLinks
theorem dX1_notches_0 : decode cX1_notches 0 = .ok (.aload_n 0, 1) := by decide +kernel
theorem dX1_notches_1 : decode cX1_notches 1 = .ok (.invokevirtual 35, 3) := by decide +kernel
theorem dX1_notches_4 : decode cX1_notches 4 = .ok (.ifCond .eq 10, 3) := by decide +kernel
theorem dX1_notches_7 : decode cX1_notches 7 = .ok (.aload_n 0, 1) := by decide +kernel
theorem dX1_notches_8 : decode cX1_notches 8 = .ok (.getfield 29, 3) := by decide +kernel
theorem dX1_notches_11 : decode cX1_notches 11 = .ok (.goto 9, 3) := by decide +kernel
theorem dX1_notches_14 : decode cX1_notches 14 = .ok (.aload_n 0, 1) := by decide +kernel
theorem dX1_notches_15 : decode cX1_notches 15 = .ok (.getfield 29, 3) := by decide +kernel
theorem dX1_notches_18 : decode cX1_notches 18 = .ok (.iconst 1, 1) := by decide +kernel
theorem dX1_notches_19 : decode cX1_notches 19 = .ok (.isub, 1) := by decide +kernel
theorem dX1_notches_20 : decode cX1_notches 20 = .ok (.ireturn, 1) := by decide +kernel
set_option maxRecDepth 20000 in
theorem ggX1_hasNotch_X1_notches : GoodIn wsX1_hasNotch wsX1_notches := goodIn_r _ [5, 6, 7, 8, 9, 4, 10, 11, 12, 13, 14, 15, 16, 17] (by decide +kernel) (by decide +kernel)
set_option maxRecDepth 20000 in
theorem gX1_hasNotch_X1_notches : GoodIn wsX1_hasNotch (wsV RX1 39 RX1 yX1_notches wsX1_notches) := goodIn_app (goodIn_of _ (by decide +kernel)) ggX1_hasNotch_X1_notches
theorem dX1_hasNotch_0 : decode cX1_hasNotch 0 = .ok (.iload_n 1, 1) := by decide +kernel
theorem dX1_hasNotch_1 : decode cX1_hasNotch 1 = .ok (.ifCond .lt 15, 3) := by decide +kernel
theorem dX1_hasNotch_4 : decode cX1_hasNotch 4 = .ok (.iload_n 1, 1) := by decide +kernel
theorem dX1_hasNotch_5 : decode cX1_hasNotch 5 = .ok (.aload_n 0, 1) := by decide +kernel
theorem dX1_hasNotch_6 : decode cX1_hasNotch 6 = .ok (.invokevirtual 39, 3) := by decide +kernel
theorem dX1_hasNotch_9 : decode cX1_hasNotch 9 = .ok (.if_icmp .ge 7, 3) := by decide +kernel
theorem dX1_hasNotch_12 : decode cX1_hasNotch 12 = .ok (.iconst 1, 1) := by decide +kernel
theorem dX1_hasNotch_13 : decode cX1_hasNotch 13 = .ok (.goto 4, 3) := by decide +kernel
theorem dX1_hasNotch_16 : decode cX1_hasNotch 16 = .ok (.iconst 0, 1) := by decide +kernel
theorem dX1_hasNotch_17 : decode cX1_hasNotch 17 = .ok (.ireturn, 1) := by decide +kernel
theorem dX1_placeOf_0 : decode cX1_placeOf 0 = .ok (.iconst 0, 1) := by decide +kernel
theorem dX1_placeOf_1 : decode cX1_placeOf 1 = .ok (.istore_n 2, 1) := by decide +kernel
theorem dX1_placeOf_2 : decode cX1_placeOf 2 = .ok (.iload_n 2, 1) := by decide +kernel
theorem dX1_placeOf_3 : decode cX1_placeOf 3 = .ok (.aload_n 0, 1) := by decide +kernel
theorem dX1_placeOf_4 : decode cX1_placeOf 4 = .ok (.getfield 32, 3) := by decide +kernel
theorem dX1_placeOf_7 : decode cX1_placeOf 7 = .ok (.if_icmp .ge 21, 3) := by decide +kernel
theorem dX1_placeOf_10 : decode cX1_placeOf 10 = .ok (.aload_n 0, 1) := by decide +kernel
theorem dX1_placeOf_11 : decode cX1_placeOf 11 = .ok (.getfield 18, 3) := by decide +kernel
theorem dX1_placeOf_14 : decode cX1_placeOf 14 = .ok (.iload_n 2, 1) := by decide +kernel
theorem dX1_placeOf_15 : decode cX1_placeOf 15 = .ok (.iaload, 1) := by decide +kernel
theorem dX1_placeOf_16 : decode cX1_placeOf 16 = .ok (.iload_n 1, 1) := by decide +kernel
theorem dX1_placeOf_17 : decode cX1_placeOf 17 = .ok (.if_icmp .ne 5, 3) := by decide +kernel
theorem dX1_placeOf_20 : decode cX1_placeOf 20 = .ok (.iload_n 2, 1) := by decide +kernel
theorem dX1_placeOf_21 : decode cX1_placeOf 21 = .ok (.ireturn, 1) := by decide +kernel
theorem dX1_placeOf_22 : decode cX1_placeOf 22 = .ok (.iinc 2 1, 3) := by decide +kernel
theorem dX1_placeOf_25 : decode cX1_placeOf 25 = .ok (.goto (-23), 3) := by decide +kernel
theorem dX1_placeOf_28 : decode cX1_placeOf 28 = .ok (.iconst (-1), 1) := by decide +kernel
theorem dX1_placeOf_29 : decode cX1_placeOf 29 = .ok (.ireturn, 1) := by decide +kernel
theorem dX1_open_0 : decode cX1_open 0 = .ok (.aload_n 0, 1) := by decide +kernel
theorem dX1_open_1 : decode cX1_open 1 = .ok (.getfield 32, 3) := by decide +kernel
theorem dX1_open_4 : decode cX1_open 4 = .ok (.istore_n 2, 1) := by decide +kernel
theorem dX1_open_5 : decode cX1_open 5 = .ok (.aload_n 0, 1) := by decide +kernel
theorem dX1_open_6 : decode cX1_open 6 = .ok (.getfield 32, 3) := by decide +kernel
theorem dX1_open_9 : decode cX1_open 9 = .ok (.iconst 1, 1) := by decide +kernel
theorem dX1_open_10 : decode cX1_open 10 = .ok (.isub, 1) := by decide +kernel
theorem dX1_open_11 : decode cX1_open 11 = .ok (.istore_n 3, 1) := by decide +kernel
theorem dX1_open_12 : decode cX1_open 12 = .ok (.iload_n 3, 1) := by decide +kernel
theorem dX1_open_13 : decode cX1_open 13 = .ok (.ifCond .lt 35, 3) := by decide +kernel
theorem dX1_open_16 : decode cX1_open 16 = .ok (.aload_n 0, 1) := by decide +kernel
theorem dX1_open_17 : decode cX1_open 17 = .ok (.getfield 18, 3) := by decide +kernel
theorem dX1_open_20 : decode cX1_open 20 = .ok (.iload_n 3, 1) := by decide +kernel
theorem dX1_open_21 : decode cX1_open 21 = .ok (.iaload, 1) := by decide +kernel
theorem dX1_open_22 : decode cX1_open 22 = .ok (.iload_n 1, 1) := by decide +kernel
theorem dX1_open_23 : decode cX1_open 23 = .ok (.if_icmp .le 25, 3) := by decide +kernel
theorem dX1_open_26 : decode cX1_open 26 = .ok (.aload_n 0, 1) := by decide +kernel
theorem dX1_open_27 : decode cX1_open 27 = .ok (.getfield 18, 3) := by decide +kernel
theorem dX1_open_30 : decode cX1_open 30 = .ok (.iload_n 3, 1) := by decide +kernel
theorem dX1_open_31 : decode cX1_open 31 = .ok (.iconst 1, 1) := by decide +kernel
theorem dX1_open_32 : decode cX1_open 32 = .ok (.iadd, 1) := by decide +kernel
theorem dX1_open_33 : decode cX1_open 33 = .ok (.aload_n 0, 1) := by decide +kernel
theorem dX1_open_34 : decode cX1_open 34 = .ok (.getfield 18, 3) := by decide +kernel
theorem dX1_open_37 : decode cX1_open 37 = .ok (.iload_n 3, 1) := by decide +kernel
theorem dX1_open_38 : decode cX1_open 38 = .ok (.iaload, 1) := by decide +kernel
theorem dX1_open_39 : decode cX1_open 39 = .ok (.iastore, 1) := by decide +kernel
theorem dX1_open_40 : decode cX1_open 40 = .ok (.iload_n 3, 1) := by decide +kernel
theorem dX1_open_41 : decode cX1_open 41 = .ok (.istore_n 2, 1) := by decide +kernel
theorem dX1_open_42 : decode cX1_open 42 = .ok (.iinc 3 (-1), 3) := by decide +kernel
theorem dX1_open_45 : decode cX1_open 45 = .ok (.goto (-33), 3) := by decide +kernel
theorem dX1_open_48 : decode cX1_open 48 = .ok (.aload_n 0, 1) := by decide +kernel
theorem dX1_open_49 : decode cX1_open 49 = .ok (.getfield 18, 3) := by decide +kernel
theorem dX1_open_52 : decode cX1_open 52 = .ok (.iload_n 2, 1) := by decide +kernel
theorem dX1_open_53 : decode cX1_open 53 = .ok (.iload_n 1, 1) := by decide +kernel
theorem dX1_open_54 : decode cX1_open 54 = .ok (.iastore, 1) := by decide +kernel
theorem dX1_open_55 : decode cX1_open 55 = .ok (.aload_n 0, 1) := by decide +kernel
theorem dX1_open_56 : decode cX1_open 56 = .ok (.dup, 1) := by decide +kernel
theorem dX1_open_57 : decode cX1_open 57 = .ok (.getfield 32, 3) := by decide +kernel
theorem dX1_open_60 : decode cX1_open 60 = .ok (.iconst 1, 1) := by decide +kernel
theorem dX1_open_61 : decode cX1_open 61 = .ok (.iadd, 1) := by decide +kernel
theorem dX1_open_62 : decode cX1_open 62 = .ok (.putfield 32, 3) := by decide +kernel
theorem dX1_open_65 : decode cX1_open 65 = .ok (.return_, 1) := by decide +kernel
theorem dX1_close_0 : decode cX1_close 0 = .ok (.iload_n 1, 1) := by decide +kernel
theorem dX1_close_1 : decode cX1_close 1 = .ok (.istore_n 2, 1) := by decide +kernel
theorem dX1_close_2 : decode cX1_close 2 = .ok (.iload_n 2, 1) := by decide +kernel
theorem dX1_close_3 : decode cX1_close 3 = .ok (.iconst 1, 1) := by decide +kernel
theorem dX1_close_4 : decode cX1_close 4 = .ok (.iadd, 1) := by decide +kernel
theorem dX1_close_5 : decode cX1_close 5 = .ok (.aload_n 0, 1) := by decide +kernel
theorem dX1_close_6 : decode cX1_close 6 = .ok (.getfield 32, 3) := by decide +kernel
theorem dX1_close_9 : decode cX1_close 9 = .ok (.if_icmp .ge 23, 3) := by decide +kernel
theorem dX1_close_12 : decode cX1_close 12 = .ok (.aload_n 0, 1) := by decide +kernel
theorem dX1_close_13 : decode cX1_close 13 = .ok (.getfield 18, 3) := by decide +kernel
theorem dX1_close_16 : decode cX1_close 16 = .ok (.iload_n 2, 1) := by decide +kernel
theorem dX1_close_17 : decode cX1_close 17 = .ok (.aload_n 0, 1) := by decide +kernel
theorem dX1_close_18 : decode cX1_close 18 = .ok (.getfield 18, 3) := by decide +kernel
theorem dX1_close_21 : decode cX1_close 21 = .ok (.iload_n 2, 1) := by decide +kernel
theorem dX1_close_22 : decode cX1_close 22 = .ok (.iconst 1, 1) := by decide +kernel
theorem dX1_close_23 : decode cX1_close 23 = .ok (.iadd, 1) := by decide +kernel
theorem dX1_close_24 : decode cX1_close 24 = .ok (.iaload, 1) := by decide +kernel
theorem dX1_close_25 : decode cX1_close 25 = .ok (.iastore, 1) := by decide +kernel
theorem dX1_close_26 : decode cX1_close 26 = .ok (.iinc 2 1, 3) := by decide +kernel
theorem dX1_close_29 : decode cX1_close 29 = .ok (.goto (-27), 3) := by decide +kernel
theorem dX1_close_32 : decode cX1_close 32 = .ok (.aload_n 0, 1) := by decide +kernel
theorem dX1_close_33 : decode cX1_close 33 = .ok (.dup, 1) := by decide +kernel
theorem dX1_close_34 : decode cX1_close 34 = .ok (.getfield 32, 3) := by decide +kernel
theorem dX1_close_37 : decode cX1_close 37 = .ok (.iconst 1, 1) := by decide +kernel
theorem dX1_close_38 : decode cX1_close 38 = .ok (.isub, 1) := by decide +kernel
theorem dX1_close_39 : decode cX1_close 39 = .ok (.putfield 32, 3) := by decide +kernel
theorem dX1_close_42 : decode cX1_close 42 = .ok (.return_, 1) := by decide +kernel
theorem dX1_take_0 : decode cX1_take 0 = .ok (.aload_n 1, 1) := by decide +kernel
theorem dX1_take_1 : decode cX1_take 1 = .ok (.getfield 9, 3) := by decide +kernel
theorem dX1_take_4 : decode cX1_take 4 = .ok (.iconst 0, 1) := by decide +kernel
theorem dX1_take_5 : decode cX1_take 5 = .ok (.aload_n 0, 1) := by decide +kernel
theorem dX1_take_6 : decode cX1_take 6 = .ok (.getfield 9, 3) := by decide +kernel
theorem dX1_take_9 : decode cX1_take 9 = .ok (.iconst 0, 1) := by decide +kernel
theorem dX1_take_10 : decode cX1_take 10 = .ok (.bipush 24, 2) := by decide +kernel
theorem dX1_take_12 : decode cX1_take 12 = .ok (.invokestatic 43, 3) := by decide +kernel
theorem dX1_take_15 : decode cX1_take 15 = .ok (.aload_n 1, 1) := by decide +kernel
theorem dX1_take_16 : decode cX1_take 16 = .ok (.getfield 15, 3) := by decide +kernel
theorem dX1_take_19 : decode cX1_take 19 = .ok (.iconst 0, 1) := by decide +kernel
theorem dX1_take_20 : decode cX1_take 20 = .ok (.aload_n 0, 1) := by decide +kernel
theorem dX1_take_21 : decode cX1_take 21 = .ok (.getfield 15, 3) := by decide +kernel
theorem dX1_take_24 : decode cX1_take 24 = .ok (.iconst 0, 1) := by decide +kernel
theorem dX1_take_25 : decode cX1_take 25 = .ok (.bipush 25, 2) := by decide +kernel
theorem dX1_take_27 : decode cX1_take 27 = .ok (.invokestatic 43, 3) := by decide +kernel
theorem dX1_take_30 : decode cX1_take 30 = .ok (.aload_n 1, 1) := by decide +kernel
theorem dX1_take_31 : decode cX1_take 31 = .ok (.getfield 18, 3) := by decide +kernel
theorem dX1_take_34 : decode cX1_take 34 = .ok (.iconst 0, 1) := by decide +kernel
theorem dX1_take_35 : decode cX1_take 35 = .ok (.aload_n 0, 1) := by decide +kernel
theorem dX1_take_36 : decode cX1_take 36 = .ok (.getfield 18, 3) := by decide +kernel
theorem dX1_take_39 : decode cX1_take 39 = .ok (.iconst 0, 1) := by decide +kernel
theorem dX1_take_40 : decode cX1_take 40 = .ok (.iconst 5, 1) := by decide +kernel
theorem dX1_take_41 : decode cX1_take 41 = .ok (.invokestatic 43, 3) := by decide +kernel
theorem dX1_take_44 : decode cX1_take 44 = .ok (.aload_n 0, 1) := by decide +kernel
theorem dX1_take_45 : decode cX1_take 45 = .ok (.aload_n 1, 1) := by decide +kernel
theorem dX1_take_46 : decode cX1_take 46 = .ok (.getfield 21, 3) := by decide +kernel
theorem dX1_take_49 : decode cX1_take 49 = .ok (.putfield 21, 3) := by decide +kernel
theorem dX1_take_52 : decode cX1_take 52 = .ok (.aload_n 0, 1) := by decide +kernel
theorem dX1_take_53 : decode cX1_take 53 = .ok (.aload_n 1, 1) := by decide +kernel
theorem dX1_take_54 : decode cX1_take 54 = .ok (.getfield 29, 3) := by decide +kernel
theorem dX1_take_57 : decode cX1_take 57 = .ok (.putfield 29, 3) := by decide +kernel
theorem dX1_take_60 : decode cX1_take 60 = .ok (.aload_n 0, 1) := by decide +kernel
theorem dX1_take_61 : decode cX1_take 61 = .ok (.aload_n 1, 1) := by decide +kernel
theorem dX1_take_62 : decode cX1_take 62 = .ok (.getfield 32, 3) := by decide +kernel
theorem dX1_take_65 : decode cX1_take 65 = .ok (.putfield 32, 3) := by decide +kernel
theorem dX1_take_68 : decode cX1_take 68 = .ok (.return_, 1) := by decide +kernel
theorem dX2_init_0 : decode cX2_init 0 = .ok (.aload_n 0, 1) := by decide +kernel
theorem dX2_init_1 : decode cX2_init 1 = .ok (.invokespecial 3, 3) := by decide +kernel
theorem dX2_init_4 : decode cX2_init 4 = .ok (.aload_n 0, 1) := by decide +kernel
theorem dX2_init_5 : decode cX2_init 5 = .ok (.iconst 4, 1) := by decide +kernel
theorem dX2_init_6 : decode cX2_init 6 = .ok (.newarray .int, 2) := by decide +kernel
theorem dX2_init_8 : decode cX2_init 8 = .ok (.putfield 9, 3) := by decide +kernel
theorem dX2_init_11 : decode cX2_init 11 = .ok (.return_, 1) := by decide +kernel
theorem dX2_begin_0 : decode cX2_begin 0 = .ok (.aload_n 0, 1) := by decide +kernel
theorem dX2_begin_1 : decode cX2_begin 1 = .ok (.iload_n 1, 1) := by decide +kernel
theorem dX2_begin_2 : decode cX2_begin 2 = .ok (.putfield 15, 3) := by decide +kernel
theorem dX2_begin_5 : decode cX2_begin 5 = .ok (.aload_n 0, 1) := by decide +kernel
theorem dX2_begin_6 : decode cX2_begin 6 = .ok (.iload_n 2, 1) := by decide +kernel
theorem dX2_begin_7 : decode cX2_begin 7 = .ok (.putfield 19, 3) := by decide +kernel
theorem dX2_begin_10 : decode cX2_begin 10 = .ok (.iconst 0, 1) := by decide +kernel
theorem dX2_begin_11 : decode cX2_begin 11 = .ok (.istore_n 3, 1) := by decide +kernel
theorem dX2_begin_12 : decode cX2_begin 12 = .ok (.iload_n 3, 1) := by decide +kernel
theorem dX2_begin_13 : decode cX2_begin 13 = .ok (.iload_n 1, 1) := by decide +kernel
theorem dX2_begin_14 : decode cX2_begin 14 = .ok (.if_icmp .ge 16, 3) := by decide +kernel
theorem dX2_begin_17 : decode cX2_begin 17 = .ok (.aload_n 0, 1) := by decide +kernel
theorem dX2_begin_18 : decode cX2_begin 18 = .ok (.getfield 9, 3) := by decide +kernel
theorem dX2_begin_21 : decode cX2_begin 21 = .ok (.iload_n 3, 1) := by decide +kernel
theorem dX2_begin_22 : decode cX2_begin 22 = .ok (.iload_n 3, 1) := by decide +kernel
theorem dX2_begin_23 : decode cX2_begin 23 = .ok (.iastore, 1) := by decide +kernel
theorem dX2_begin_24 : decode cX2_begin 24 = .ok (.iinc 3 1, 3) := by decide +kernel
theorem dX2_begin_27 : decode cX2_begin 27 = .ok (.goto (-15), 3) := by decide +kernel
theorem dX2_begin_30 : decode cX2_begin 30 = .ok (.iload_n 1, 1) := by decide +kernel
theorem dX2_begin_31 : decode cX2_begin 31 = .ok (.iload_n 2, 1) := by decide +kernel
theorem dX2_begin_32 : decode cX2_begin 32 = .ok (.if_icmp .gt 7, 3) := by decide +kernel
theorem dX2_begin_35 : decode cX2_begin 35 = .ok (.iconst 1, 1) := by decide +kernel
theorem dX2_begin_36 : decode cX2_begin 36 = .ok (.goto 4, 3) := by decide +kernel
theorem dX2_begin_39 : decode cX2_begin 39 = .ok (.iconst 0, 1) := by decide +kernel
theorem dX2_begin_40 : decode cX2_begin 40 = .ok (.ireturn, 1) := by decide +kernel
theorem dX2_step_0 : decode cX2_step 0 = .ok (.aload_n 0, 1) := by decide +kernel
theorem dX2_step_1 : decode cX2_step 1 = .ok (.getfield 15, 3) := by decide +kernel
theorem dX2_step_4 : decode cX2_step 4 = .ok (.iconst 1, 1) := by decide +kernel
theorem dX2_step_5 : decode cX2_step 5 = .ok (.isub, 1) := by decide +kernel
theorem dX2_step_6 : decode cX2_step 6 = .ok (.istore_n 1, 1) := by decide +kernel
theorem dX2_step_7 : decode cX2_step 7 = .ok (.iload_n 1, 1) := by decide +kernel
theorem dX2_step_8 : decode cX2_step 8 = .ok (.ifCond .lt 75, 3) := by decide +kernel
theorem dX2_step_11 : decode cX2_step 11 = .ok (.aload_n 0, 1) := by decide +kernel
theorem dX2_step_12 : decode cX2_step 12 = .ok (.getfield 9, 3) := by decide +kernel
theorem dX2_step_15 : decode cX2_step 15 = .ok (.iload_n 1, 1) := by decide +kernel
theorem dX2_step_16 : decode cX2_step 16 = .ok (.iaload, 1) := by decide +kernel
theorem dX2_step_17 : decode cX2_step 17 = .ok (.aload_n 0, 1) := by decide +kernel
theorem dX2_step_18 : decode cX2_step 18 = .ok (.getfield 19, 3) := by decide +kernel
theorem dX2_step_21 : decode cX2_step 21 = .ok (.aload_n 0, 1) := by decide +kernel
theorem dX2_step_22 : decode cX2_step 22 = .ok (.getfield 15, 3) := by decide +kernel
theorem dX2_step_25 : decode cX2_step 25 = .ok (.isub, 1) := by decide +kernel
theorem dX2_step_26 : decode cX2_step 26 = .ok (.iload_n 1, 1) := by decide +kernel
theorem dX2_step_27 : decode cX2_step 27 = .ok (.iadd, 1) := by decide +kernel
theorem dX2_step_28 : decode cX2_step 28 = .ok (.if_icmp .ge 49, 3) := by decide +kernel
theorem dX2_step_31 : decode cX2_step 31 = .ok (.aload_n 0, 1) := by decide +kernel
theorem dX2_step_32 : decode cX2_step 32 = .ok (.getfield 9, 3) := by decide +kernel
theorem dX2_step_35 : decode cX2_step 35 = .ok (.iload_n 1, 1) := by decide +kernel
theorem dX2_step_36 : decode cX2_step 36 = .ok (.dup2, 1) := by decide +kernel
theorem dX2_step_37 : decode cX2_step 37 = .ok (.iaload, 1) := by decide +kernel
theorem dX2_step_38 : decode cX2_step 38 = .ok (.iconst 1, 1) := by decide +kernel
theorem dX2_step_39 : decode cX2_step 39 = .ok (.iadd, 1) := by decide +kernel
theorem dX2_step_40 : decode cX2_step 40 = .ok (.iastore, 1) := by decide +kernel
theorem dX2_step_41 : decode cX2_step 41 = .ok (.iload_n 1, 1) := by decide +kernel
theorem dX2_step_42 : decode cX2_step 42 = .ok (.iconst 1, 1) := by decide +kernel
theorem dX2_step_43 : decode cX2_step 43 = .ok (.iadd, 1) := by decide +kernel
theorem dX2_step_44 : decode cX2_step 44 = .ok (.istore_n 2, 1) := by decide +kernel
theorem dX2_step_45 : decode cX2_step 45 = .ok (.iload_n 2, 1) := by decide +kernel
theorem dX2_step_46 : decode cX2_step 46 = .ok (.aload_n 0, 1) := by decide +kernel
theorem dX2_step_47 : decode cX2_step 47 = .ok (.getfield 15, 3) := by decide +kernel
theorem dX2_step_50 : decode cX2_step 50 = .ok (.if_icmp .ge 25, 3) := by decide +kernel
theorem dX2_step_53 : decode cX2_step 53 = .ok (.aload_n 0, 1) := by decide +kernel
theorem dX2_step_54 : decode cX2_step 54 = .ok (.getfield 9, 3) := by decide +kernel
theorem dX2_step_57 : decode cX2_step 57 = .ok (.iload_n 2, 1) := by decide +kernel
theorem dX2_step_58 : decode cX2_step 58 = .ok (.aload_n 0, 1) := by decide +kernel
theorem dX2_step_59 : decode cX2_step 59 = .ok (.getfield 9, 3) := by decide +kernel
theorem dX2_step_62 : decode cX2_step 62 = .ok (.iload_n 2, 1) := by decide +kernel
theorem dX2_step_63 : decode cX2_step 63 = .ok (.iconst 1, 1) := by decide +kernel
theorem dX2_step_64 : decode cX2_step 64 = .ok (.isub, 1) := by decide +kernel
theorem dX2_step_65 : decode cX2_step 65 = .ok (.iaload, 1) := by decide +kernel
theorem dX2_step_66 : decode cX2_step 66 = .ok (.iconst 1, 1) := by decide +kernel
theorem dX2_step_67 : decode cX2_step 67 = .ok (.iadd, 1) := by decide +kernel
theorem dX2_step_68 : decode cX2_step 68 = .ok (.iastore, 1) := by decide +kernel
theorem dX2_step_69 : decode cX2_step 69 = .ok (.iinc 2 1, 3) := by decide +kernel
theorem dX2_step_72 : decode cX2_step 72 = .ok (.goto (-27), 3) := by decide +kernel
theorem dX2_step_75 : decode cX2_step 75 = .ok (.iconst 1, 1) := by decide +kernel
theorem dX2_step_76 : decode cX2_step 76 = .ok (.ireturn, 1) := by decide +kernel
theorem dX2_step_77 : decode cX2_step 77 = .ok (.iinc 1 (-1), 3) := by decide +kernel
theorem dX2_step_80 : decode cX2_step 80 = .ok (.goto (-73), 3) := by decide +kernel
theorem dX2_step_83 : decode cX2_step 83 = .ok (.iconst 0, 1) := by decide +kernel
theorem dX2_step_84 : decode cX2_step 84 = .ok (.ireturn, 1) := by decide +kernel
set_option maxRecDepth 20000 in
theorem ggX3_init_X3_reckon : GoodIn wsX3_init wsX3_reckon := goodIn_r _ [11, 12, 13, 6, 5, 14, 15, 16, 17] (by decide +kernel) (by decide +kernel)
set_option maxRecDepth 20000 in
theorem gX3_init_X3_reckon : GoodIn wsX3_init (wsV RX3 19 RX3 yX3_reckon wsX3_reckon) := goodIn_app (goodIn_of _ (by decide +kernel)) ggX3_init_X3_reckon
theorem dX3_init_0 : decode cX3_init 0 = .ok (.aload_n 0, 1) := by decide +kernel
theorem dX3_init_1 : decode cX3_init 1 = .ok (.invokespecial 3, 3) := by decide +kernel
theorem dX3_init_4 : decode cX3_init 4 = .ok (.aload_n 0, 1) := by decide +kernel
theorem dX3_init_5 : decode cX3_init 5 = .ok (.bipush 61, 2) := by decide +kernel
theorem dX3_init_7 : decode cX3_init 7 = .ok (.newarray .int, 2) := by decide +kernel
theorem dX3_init_9 : decode cX3_init 9 = .ok (.putfield 9, 3) := by decide +kernel
theorem dX3_init_12 : decode cX3_init 12 = .ok (.aload_n 0, 1) := by decide +kernel
theorem dX3_init_13 : decode cX3_init 13 = .ok (.iconst 1, 1) := by decide +kernel
theorem dX3_init_14 : decode cX3_init 14 = .ok (.putfield 15, 3) := by decide +kernel
theorem dX3_init_17 : decode cX3_init 17 = .ok (.aload_n 0, 1) := by decide +kernel
theorem dX3_init_18 : decode cX3_init 18 = .ok (.invokevirtual 19, 3) := by decide +kernel
theorem dX3_init_21 : decode cX3_init 21 = .ok (.return_, 1) := by decide +kernel
set_option maxRecDepth 20000 in
theorem ggX3_set_X3_reckon : GoodIn wsX3_set wsX3_reckon := goodIn_r _ [8, 2, 3, 1, 9, 10, 11, 12, 13] (by decide +kernel) (by decide +kernel)
set_option maxRecDepth 20000 in
theorem gX3_set_X3_reckon : GoodIn wsX3_set (wsV RX3 19 RX3 yX3_reckon wsX3_reckon) := goodIn_app (goodIn_of _ (by decide +kernel)) ggX3_set_X3_reckon
theorem dX3_set_0 : decode cX3_set 0 = .ok (.iload_n 1, 1) := by decide +kernel
theorem dX3_set_1 : decode cX3_set 1 = .ok (.ifCond .ne 10, 3) := by decide +kernel
theorem dX3_set_4 : decode cX3_set 4 = .ok (.aload_n 0, 1) := by decide +kernel
theorem dX3_set_5 : decode cX3_set 5 = .ok (.getfield 15, 3) := by decide +kernel
theorem dX3_set_8 : decode cX3_set 8 = .ok (.goto 19, 3) := by decide +kernel
theorem dX3_set_11 : decode cX3_set 11 = .ok (.iload_n 1, 1) := by decide +kernel
theorem dX3_set_12 : decode cX3_set 12 = .ok (.iconst 1, 1) := by decide +kernel
theorem dX3_set_13 : decode cX3_set 13 = .ok (.if_icmp .ne 10, 3) := by decide +kernel
theorem dX3_set_16 : decode cX3_set 16 = .ok (.aload_n 0, 1) := by decide +kernel
theorem dX3_set_17 : decode cX3_set 17 = .ok (.getfield 22, 3) := by decide +kernel
theorem dX3_set_20 : decode cX3_set 20 = .ok (.goto 7, 3) := by decide +kernel
theorem dX3_set_23 : decode cX3_set 23 = .ok (.aload_n 0, 1) := by decide +kernel
theorem dX3_set_24 : decode cX3_set 24 = .ok (.getfield 25, 3) := by decide +kernel
theorem dX3_set_27 : decode cX3_set 27 = .ok (.istore_n 3, 1) := by decide +kernel
theorem dX3_set_28 : decode cX3_set 28 = .ok (.iload_n 1, 1) := by decide +kernel
theorem dX3_set_29 : decode cX3_set 29 = .ok (.ifCond .ne 11, 3) := by decide +kernel
theorem dX3_set_32 : decode cX3_set 32 = .ok (.aload_n 0, 1) := by decide +kernel
theorem dX3_set_33 : decode cX3_set 33 = .ok (.iload_n 2, 1) := by decide +kernel
theorem dX3_set_34 : decode cX3_set 34 = .ok (.putfield 15, 3) := by decide +kernel
theorem dX3_set_37 : decode cX3_set 37 = .ok (.goto 21, 3) := by decide +kernel
theorem dX3_set_40 : decode cX3_set 40 = .ok (.iload_n 1, 1) := by decide +kernel
theorem dX3_set_41 : decode cX3_set 41 = .ok (.iconst 1, 1) := by decide +kernel
theorem dX3_set_42 : decode cX3_set 42 = .ok (.if_icmp .ne 11, 3) := by decide +kernel
theorem dX3_set_45 : decode cX3_set 45 = .ok (.aload_n 0, 1) := by decide +kernel
theorem dX3_set_46 : decode cX3_set 46 = .ok (.iload_n 2, 1) := by decide +kernel
theorem dX3_set_47 : decode cX3_set 47 = .ok (.putfield 22, 3) := by decide +kernel
theorem dX3_set_50 : decode cX3_set 50 = .ok (.goto 8, 3) := by decide +kernel
theorem dX3_set_53 : decode cX3_set 53 = .ok (.aload_n 0, 1) := by decide +kernel
theorem dX3_set_54 : decode cX3_set 54 = .ok (.iload_n 2, 1) := by decide +kernel
theorem dX3_set_55 : decode cX3_set 55 = .ok (.putfield 25, 3) := by decide +kernel
theorem dX3_set_58 : decode cX3_set 58 = .ok (.aload_n 0, 1) := by decide +kernel
theorem dX3_set_59 : decode cX3_set 59 = .ok (.invokevirtual 19, 3) := by decide +kernel
theorem dX3_set_62 : decode cX3_set 62 = .ok (.iload_n 3, 1) := by decide +kernel
theorem dX3_set_63 : decode cX3_set 63 = .ok (.ireturn, 1) := by decide +kernel
theorem dX3_reckon_0 : decode cX3_reckon 0 = .ok (.iconst 1, 1) := by decide +kernel
theorem dX3_reckon_1 : decode cX3_reckon 1 = .ok (.istore_n 1, 1) := by decide +kernel
theorem dX3_reckon_2 : decode cX3_reckon 2 = .ok (.iload_n 1, 1) := by decide +kernel
theorem dX3_reckon_3 : decode cX3_reckon 3 = .ok (.bipush 60, 2) := by decide +kernel
theorem dX3_reckon_5 : decode cX3_reckon 5 = .ok (.if_icmp .gt 70, 3) := by decide +kernel
theorem dX3_reckon_8 : decode cX3_reckon 8 = .ok (.iconst 1, 1) := by decide +kernel
theorem dX3_reckon_9 : decode cX3_reckon 9 = .ok (.iload_n 1, 1) := by decide +kernel
theorem dX3_reckon_10 : decode cX3_reckon 10 = .ok (.iconst 1, 1) := by decide +kernel
theorem dX3_reckon_11 : decode cX3_reckon 11 = .ok (.isub, 1) := by decide +kernel
theorem dX3_reckon_12 : decode cX3_reckon 12 = .ok (.bipush 7, 2) := by decide +kernel
theorem dX3_reckon_14 : decode cX3_reckon 14 = .ok (.irem, 1) := by decide +kernel
theorem dX3_reckon_15 : decode cX3_reckon 15 = .ok (.ishl, 1) := by decide +kernel
theorem dX3_reckon_16 : decode cX3_reckon 16 = .ok (.istore_n 2, 1) := by decide +kernel
theorem dX3_reckon_17 : decode cX3_reckon 17 = .ok (.aload_n 0, 1) := by decide +kernel
theorem dX3_reckon_18 : decode cX3_reckon 18 = .ok (.getfield 22, 3) := by decide +kernel
theorem dX3_reckon_21 : decode cX3_reckon 21 = .ok (.iload_n 2, 1) := by decide +kernel
theorem dX3_reckon_22 : decode cX3_reckon 22 = .ok (.iand, 1) := by decide +kernel
theorem dX3_reckon_23 : decode cX3_reckon 23 = .ok (.ifCond .eq 7, 3) := by decide +kernel
theorem dX3_reckon_26 : decode cX3_reckon 26 = .ok (.iconst 0, 1) := by decide +kernel
theorem dX3_reckon_27 : decode cX3_reckon 27 = .ok (.goto 25, 3) := by decide +kernel
theorem dX3_reckon_30 : decode cX3_reckon 30 = .ok (.aload_n 0, 1) := by decide +kernel
theorem dX3_reckon_31 : decode cX3_reckon 31 = .ok (.getfield 25, 3) := by decide +kernel
theorem dX3_reckon_34 : decode cX3_reckon 34 = .ok (.iload_n 2, 1) := by decide +kernel
theorem dX3_reckon_35 : decode cX3_reckon 35 = .ok (.iand, 1) := by decide +kernel
theorem dX3_reckon_36 : decode cX3_reckon 36 = .ok (.ifCond .eq 12, 3) := by decide +kernel
theorem dX3_reckon_39 : decode cX3_reckon 39 = .ok (.iconst 2, 1) := by decide +kernel
theorem dX3_reckon_40 : decode cX3_reckon 40 = .ok (.aload_n 0, 1) := by decide +kernel
theorem dX3_reckon_41 : decode cX3_reckon 41 = .ok (.getfield 15, 3) := by decide +kernel
theorem dX3_reckon_44 : decode cX3_reckon 44 = .ok (.imul, 1) := by decide +kernel
theorem dX3_reckon_45 : decode cX3_reckon 45 = .ok (.goto 7, 3) := by decide +kernel
theorem dX3_reckon_48 : decode cX3_reckon 48 = .ok (.aload_n 0, 1) := by decide +kernel
theorem dX3_reckon_49 : decode cX3_reckon 49 = .ok (.getfield 15, 3) := by decide +kernel
theorem dX3_reckon_52 : decode cX3_reckon 52 = .ok (.istore_n 3, 1) := by decide +kernel
theorem dX3_reckon_53 : decode cX3_reckon 53 = .ok (.aload_n 0, 1) := by decide +kernel
theorem dX3_reckon_54 : decode cX3_reckon 54 = .ok (.getfield 9, 3) := by decide +kernel
theorem dX3_reckon_57 : decode cX3_reckon 57 = .ok (.iload_n 1, 1) := by decide +kernel
theorem dX3_reckon_58 : decode cX3_reckon 58 = .ok (.aload_n 0, 1) := by decide +kernel
theorem dX3_reckon_59 : decode cX3_reckon 59 = .ok (.getfield 9, 3) := by decide +kernel
theorem dX3_reckon_62 : decode cX3_reckon 62 = .ok (.iload_n 1, 1) := by decide +kernel
theorem dX3_reckon_63 : decode cX3_reckon 63 = .ok (.iconst 1, 1) := by decide +kernel
theorem dX3_reckon_64 : decode cX3_reckon 64 = .ok (.isub, 1) := by decide +kernel
theorem dX3_reckon_65 : decode cX3_reckon 65 = .ok (.iaload, 1) := by decide +kernel
theorem dX3_reckon_66 : decode cX3_reckon 66 = .ok (.iload_n 3, 1) := by decide +kernel
theorem dX3_reckon_67 : decode cX3_reckon 67 = .ok (.iadd, 1) := by decide +kernel
theorem dX3_reckon_68 : decode cX3_reckon 68 = .ok (.iastore, 1) := by decide +kernel
theorem dX3_reckon_69 : decode cX3_reckon 69 = .ok (.iinc 1 1, 3) := by decide +kernel
theorem dX3_reckon_72 : decode cX3_reckon 72 = .ok (.goto (-70), 3) := by decide +kernel
theorem dX3_reckon_75 : decode cX3_reckon 75 = .ok (.return_, 1) := by decide +kernel
theorem dX3_coveredBy_0 : decode cX3_coveredBy 0 = .ok (.iconst 0, 1) := by decide +kernel
theorem dX3_coveredBy_1 : decode cX3_coveredBy 1 = .ok (.istore_n 2, 1) := by decide +kernel
theorem dX3_coveredBy_2 : decode cX3_coveredBy 2 = .ok (.iload_n 2, 1) := by decide +kernel
theorem dX3_coveredBy_3 : decode cX3_coveredBy 3 = .ok (.bipush 60, 2) := by decide +kernel
theorem dX3_coveredBy_5 : decode cX3_coveredBy 5 = .ok (.if_icmp .ge 21, 3) := by decide +kernel
theorem dX3_coveredBy_8 : decode cX3_coveredBy 8 = .ok (.aload_n 0, 1) := by decide +kernel
theorem dX3_coveredBy_9 : decode cX3_coveredBy 9 = .ok (.getfield 9, 3) := by decide +kernel
theorem dX3_coveredBy_12 : decode cX3_coveredBy 12 = .ok (.iload_n 2, 1) := by decide +kernel
theorem dX3_coveredBy_13 : decode cX3_coveredBy 13 = .ok (.iconst 1, 1) := by decide +kernel
theorem dX3_coveredBy_14 : decode cX3_coveredBy 14 = .ok (.iadd, 1) := by decide +kernel
theorem dX3_coveredBy_15 : decode cX3_coveredBy 15 = .ok (.iaload, 1) := by decide +kernel
theorem dX3_coveredBy_16 : decode cX3_coveredBy 16 = .ok (.iload_n 1, 1) := by decide +kernel
theorem dX3_coveredBy_17 : decode cX3_coveredBy 17 = .ok (.if_icmp .gt 9, 3) := by decide +kernel
theorem dX3_coveredBy_20 : decode cX3_coveredBy 20 = .ok (.iinc 2 1, 3) := by decide +kernel
theorem dX3_coveredBy_23 : decode cX3_coveredBy 23 = .ok (.goto (-21), 3) := by decide +kernel
theorem dX3_coveredBy_26 : decode cX3_coveredBy 26 = .ok (.iload_n 2, 1) := by decide +kernel
theorem dX3_coveredBy_27 : decode cX3_coveredBy 27 = .ok (.ireturn, 1) := by decide +kernel
theorem dX3_take_0 : decode cX3_take 0 = .ok (.aload_n 1, 1) := by decide +kernel
theorem dX3_take_1 : decode cX3_take 1 = .ok (.getfield 9, 3) := by decide +kernel
theorem dX3_take_4 : decode cX3_take 4 = .ok (.iconst 0, 1) := by decide +kernel
theorem dX3_take_5 : decode cX3_take 5 = .ok (.aload_n 0, 1) := by decide +kernel
theorem dX3_take_6 : decode cX3_take 6 = .ok (.getfield 9, 3) := by decide +kernel
theorem dX3_take_9 : decode cX3_take 9 = .ok (.iconst 0, 1) := by decide +kernel
theorem dX3_take_10 : decode cX3_take 10 = .ok (.bipush 61, 2) := by decide +kernel
theorem dX3_take_12 : decode cX3_take 12 = .ok (.invokestatic 28, 3) := by decide +kernel
theorem dX3_take_15 : decode cX3_take 15 = .ok (.aload_n 0, 1) := by decide +kernel
theorem dX3_take_16 : decode cX3_take 16 = .ok (.aload_n 1, 1) := by decide +kernel
theorem dX3_take_17 : decode cX3_take 17 = .ok (.getfield 15, 3) := by decide +kernel
theorem dX3_take_20 : decode cX3_take 20 = .ok (.putfield 15, 3) := by decide +kernel
theorem dX3_take_23 : decode cX3_take 23 = .ok (.aload_n 0, 1) := by decide +kernel
theorem dX3_take_24 : decode cX3_take 24 = .ok (.aload_n 1, 1) := by decide +kernel
theorem dX3_take_25 : decode cX3_take 25 = .ok (.getfield 22, 3) := by decide +kernel
theorem dX3_take_28 : decode cX3_take 28 = .ok (.putfield 22, 3) := by decide +kernel
theorem dX3_take_31 : decode cX3_take 31 = .ok (.aload_n 0, 1) := by decide +kernel
theorem dX3_take_32 : decode cX3_take 32 = .ok (.aload_n 1, 1) := by decide +kernel
theorem dX3_take_33 : decode cX3_take 33 = .ok (.getfield 25, 3) := by decide +kernel
theorem dX3_take_36 : decode cX3_take 36 = .ok (.putfield 25, 3) := by decide +kernel
theorem dX3_take_39 : decode cX3_take 39 = .ok (.return_, 1) := by decide +kernel
theorem dX4_init_0 : decode cX4_init 0 = .ok (.aload_n 0, 1) := by decide +kernel
theorem dX4_init_1 : decode cX4_init 1 = .ok (.invokespecial 3, 3) := by decide +kernel
theorem dX4_init_4 : decode cX4_init 4 = .ok (.aload_n 0, 1) := by decide +kernel
theorem dX4_init_5 : decode cX4_init 5 = .ok (.iconst 5, 1) := by decide +kernel
theorem dX4_init_6 : decode cX4_init 6 = .ok (.newarray .int, 2) := by decide +kernel
theorem dX4_init_8 : decode cX4_init 8 = .ok (.putfield 9, 3) := by decide +kernel
theorem dX4_init_11 : decode cX4_init 11 = .ok (.aload_n 0, 1) := by decide +kernel
theorem dX4_init_12 : decode cX4_init 12 = .ok (.bipush 32, 2) := by decide +kernel
theorem dX4_init_14 : decode cX4_init 14 = .ok (.newarray .long, 2) := by decide +kernel
theorem dX4_init_16 : decode cX4_init 16 = .ok (.putfield 15, 3) := by decide +kernel
theorem dX4_init_19 : decode cX4_init 19 = .ok (.aload_n 0, 1) := by decide +kernel
theorem dX4_init_20 : decode cX4_init 20 = .ok (.bipush 32, 2) := by decide +kernel
theorem dX4_init_22 : decode cX4_init 22 = .ok (.newarray .long, 2) := by decide +kernel
theorem dX4_init_24 : decode cX4_init 24 = .ok (.putfield 19, 3) := by decide +kernel
theorem dX4_init_27 : decode cX4_init 27 = .ok (.return_, 1) := by decide +kernel
theorem dX4_choosePart_0 : decode cX4_choosePart 0 = .ok (.iconst 0, 1) := by decide +kernel
theorem dX4_choosePart_1 : decode cX4_choosePart 1 = .ok (.istore_n 3, 1) := by decide +kernel
theorem dX4_choosePart_2 : decode cX4_choosePart 2 = .ok (.iconst 0, 1) := by decide +kernel
theorem dX4_choosePart_3 : decode cX4_choosePart 3 = .ok (.istore 4, 2) := by decide +kernel
theorem dX4_choosePart_5 : decode cX4_choosePart 5 = .ok (.iload 4, 2) := by decide +kernel
theorem dX4_choosePart_7 : decode cX4_choosePart 7 = .ok (.aload_n 1, 1) := by decide +kernel
theorem dX4_choosePart_8 : decode cX4_choosePart 8 = .ok (.getfield 22, 3) := by decide +kernel
theorem dX4_choosePart_11 : decode cX4_choosePart 11 = .ok (.if_icmp .ge 34, 3) := by decide +kernel
theorem dX4_choosePart_14 : decode cX4_choosePart 14 = .ok (.iload_n 2, 1) := by decide +kernel
theorem dX4_choosePart_15 : decode cX4_choosePart 15 = .ok (.iload 4, 2) := by decide +kernel
theorem dX4_choosePart_17 : decode cX4_choosePart 17 = .ok (.ishr, 1) := by decide +kernel
theorem dX4_choosePart_18 : decode cX4_choosePart 18 = .ok (.iconst 1, 1) := by decide +kernel
theorem dX4_choosePart_19 : decode cX4_choosePart 19 = .ok (.iand, 1) := by decide +kernel
theorem dX4_choosePart_20 : decode cX4_choosePart 20 = .ok (.ifCond .eq 19, 3) := by decide +kernel
theorem dX4_choosePart_23 : decode cX4_choosePart 23 = .ok (.aload_n 0, 1) := by decide +kernel
theorem dX4_choosePart_24 : decode cX4_choosePart 24 = .ok (.getfield 9, 3) := by decide +kernel
theorem dX4_choosePart_27 : decode cX4_choosePart 27 = .ok (.iload_n 3, 1) := by decide +kernel
theorem dX4_choosePart_28 : decode cX4_choosePart 28 = .ok (.aload_n 1, 1) := by decide +kernel
theorem dX4_choosePart_29 : decode cX4_choosePart 29 = .ok (.getfield 28, 3) := by decide +kernel
theorem dX4_choosePart_32 : decode cX4_choosePart 32 = .ok (.iload 4, 2) := by decide +kernel
theorem dX4_choosePart_34 : decode cX4_choosePart 34 = .ok (.iaload, 1) := by decide +kernel
theorem dX4_choosePart_35 : decode cX4_choosePart 35 = .ok (.iastore, 1) := by decide +kernel
theorem dX4_choosePart_36 : decode cX4_choosePart 36 = .ok (.iinc 3 1, 3) := by decide +kernel
theorem dX4_choosePart_39 : decode cX4_choosePart 39 = .ok (.iinc 4 1, 3) := by decide +kernel
theorem dX4_choosePart_42 : decode cX4_choosePart 42 = .ok (.goto (-37), 3) := by decide +kernel
theorem dX4_choosePart_45 : decode cX4_choosePart 45 = .ok (.iload_n 3, 1) := by decide +kernel
theorem dX4_choosePart_46 : decode cX4_choosePart 46 = .ok (.ireturn, 1) := by decide +kernel
set_option maxRecDepth 20000 in
theorem ggX4_reckon_X4_makeCut : GoodIn wsX4_reckon wsX4_makeCut := goodIn_r _ [8, 9, 10, 1, 11, 12, 13, 14, 20, 21, 22, 23] (by decide +kernel) (by decide +kernel)
set_option maxRecDepth 20000 in
theorem gX4_reckon_X4_makeCut : GoodIn wsX4_reckon (wsV RX4 33 RX4 yX4_makeCut wsX4_makeCut) := goodIn_app (goodIn_of _ (by decide +kernel)) ggX4_reckon_X4_makeCut
set_option maxRecDepth 20000 in
theorem ggX4_reckon_X4_keepPaid : GoodIn wsX4_reckon wsX4_keepPaid := goodIn_r _ [18, 19, 1, 2, 20, 21, 22, 23] (by decide +kernel) (by decide +kernel)
set_option maxRecDepth 20000 in
theorem gX4_reckon_X4_keepPaid : GoodIn wsX4_reckon (wsV RX4 37 RX4 yX4_keepPaid wsX4_keepPaid) := goodIn_app (goodIn_of _ (by decide +kernel)) ggX4_reckon_X4_keepPaid
theorem dX4_reckon_0 : decode cX4_reckon 0 = .ok (.iconst 1, 1) := by decide +kernel
theorem dX4_reckon_1 : decode cX4_reckon 1 = .ok (.iload_n 1, 1) := by decide +kernel
theorem dX4_reckon_2 : decode cX4_reckon 2 = .ok (.ishl, 1) := by decide +kernel
theorem dX4_reckon_3 : decode cX4_reckon 3 = .ok (.istore_n 3, 1) := by decide +kernel
theorem dX4_reckon_4 : decode cX4_reckon 4 = .ok (.aload_n 0, 1) := by decide +kernel
theorem dX4_reckon_5 : decode cX4_reckon 5 = .ok (.getfield 19, 3) := by decide +kernel
theorem dX4_reckon_8 : decode cX4_reckon 8 = .ok (.iconst 0, 1) := by decide +kernel
theorem dX4_reckon_9 : decode cX4_reckon 9 = .ok (.lconst 0, 1) := by decide +kernel
theorem dX4_reckon_10 : decode cX4_reckon 10 = .ok (.lastore, 1) := by decide +kernel
theorem dX4_reckon_11 : decode cX4_reckon 11 = .ok (.iconst 1, 1) := by decide +kernel
theorem dX4_reckon_12 : decode cX4_reckon 12 = .ok (.istore 4, 2) := by decide +kernel
theorem dX4_reckon_14 : decode cX4_reckon 14 = .ok (.iload 4, 2) := by decide +kernel
theorem dX4_reckon_16 : decode cX4_reckon 16 = .ok (.iload_n 3, 1) := by decide +kernel
theorem dX4_reckon_17 : decode cX4_reckon 17 = .ok (.if_icmp .ge 19, 3) := by decide +kernel
theorem dX4_reckon_20 : decode cX4_reckon 20 = .ok (.aload_n 0, 1) := by decide +kernel
theorem dX4_reckon_21 : decode cX4_reckon 21 = .ok (.getfield 19, 3) := by decide +kernel
theorem dX4_reckon_24 : decode cX4_reckon 24 = .ok (.iload 4, 2) := by decide +kernel
theorem dX4_reckon_26 : decode cX4_reckon 26 = .ok (.ldc2_w 31, 3) := by decide +kernel
theorem dX4_reckon_29 : decode cX4_reckon 29 = .ok (.lastore, 1) := by decide +kernel
theorem dX4_reckon_30 : decode cX4_reckon 30 = .ok (.iinc 4 1, 3) := by decide +kernel
theorem dX4_reckon_33 : decode cX4_reckon 33 = .ok (.goto (-19), 3) := by decide +kernel
theorem dX4_reckon_36 : decode cX4_reckon 36 = .ok (.iconst 1, 1) := by decide +kernel
theorem dX4_reckon_37 : decode cX4_reckon 37 = .ok (.istore 4, 2) := by decide +kernel
theorem dX4_reckon_39 : decode cX4_reckon 39 = .ok (.iload 4, 2) := by decide +kernel
theorem dX4_reckon_41 : decode cX4_reckon 41 = .ok (.iload_n 2, 1) := by decide +kernel
theorem dX4_reckon_42 : decode cX4_reckon 42 = .ok (.if_icmp .gt 40, 3) := by decide +kernel
theorem dX4_reckon_45 : decode cX4_reckon 45 = .ok (.iconst 0, 1) := by decide +kernel
theorem dX4_reckon_46 : decode cX4_reckon 46 = .ok (.istore 5, 2) := by decide +kernel
theorem dX4_reckon_48 : decode cX4_reckon 48 = .ok (.iload 5, 2) := by decide +kernel
theorem dX4_reckon_50 : decode cX4_reckon 50 = .ok (.iload_n 1, 1) := by decide +kernel
theorem dX4_reckon_51 : decode cX4_reckon 51 = .ok (.if_icmp .ge 18, 3) := by decide +kernel
theorem dX4_reckon_54 : decode cX4_reckon 54 = .ok (.aload_n 0, 1) := by decide +kernel
theorem dX4_reckon_55 : decode cX4_reckon 55 = .ok (.iload 5, 2) := by decide +kernel
theorem dX4_reckon_57 : decode cX4_reckon 57 = .ok (.iload 4, 2) := by decide +kernel
theorem dX4_reckon_59 : decode cX4_reckon 59 = .ok (.iload_n 3, 1) := by decide +kernel
theorem dX4_reckon_60 : decode cX4_reckon 60 = .ok (.invokevirtual 33, 3) := by decide +kernel
theorem dX4_reckon_63 : decode cX4_reckon 63 = .ok (.iinc 5 1, 3) := by decide +kernel
theorem dX4_reckon_66 : decode cX4_reckon 66 = .ok (.goto (-18), 3) := by decide +kernel
theorem dX4_reckon_69 : decode cX4_reckon 69 = .ok (.aload_n 0, 1) := by decide +kernel
theorem dX4_reckon_70 : decode cX4_reckon 70 = .ok (.iload 4, 2) := by decide +kernel
theorem dX4_reckon_72 : decode cX4_reckon 72 = .ok (.iload_n 3, 1) := by decide +kernel
theorem dX4_reckon_73 : decode cX4_reckon 73 = .ok (.invokevirtual 37, 3) := by decide +kernel
theorem dX4_reckon_76 : decode cX4_reckon 76 = .ok (.iinc 4 1, 3) := by decide +kernel
theorem dX4_reckon_79 : decode cX4_reckon 79 = .ok (.goto (-40), 3) := by decide +kernel
theorem dX4_reckon_82 : decode cX4_reckon 82 = .ok (.aload_n 0, 1) := by decide +kernel
theorem dX4_reckon_83 : decode cX4_reckon 83 = .ok (.aload_n 0, 1) := by decide +kernel
theorem dX4_reckon_84 : decode cX4_reckon 84 = .ok (.getfield 19, 3) := by decide +kernel
theorem dX4_reckon_87 : decode cX4_reckon 87 = .ok (.iload_n 3, 1) := by decide +kernel
theorem dX4_reckon_88 : decode cX4_reckon 88 = .ok (.iconst 1, 1) := by decide +kernel
theorem dX4_reckon_89 : decode cX4_reckon 89 = .ok (.isub, 1) := by decide +kernel
theorem dX4_reckon_90 : decode cX4_reckon 90 = .ok (.laload, 1) := by decide +kernel
theorem dX4_reckon_91 : decode cX4_reckon 91 = .ok (.putfield 41, 3) := by decide +kernel
theorem dX4_reckon_94 : decode cX4_reckon 94 = .ok (.return_, 1) := by decide +kernel
theorem dX4_makeCut_0 : decode cX4_makeCut 0 = .ok (.iconst 1, 1) := by decide +kernel
theorem dX4_makeCut_1 : decode cX4_makeCut 1 = .ok (.iload_n 1, 1) := by decide +kernel
theorem dX4_makeCut_2 : decode cX4_makeCut 2 = .ok (.ishl, 1) := by decide +kernel
theorem dX4_makeCut_3 : decode cX4_makeCut 3 = .ok (.istore 4, 2) := by decide +kernel
theorem dX4_makeCut_5 : decode cX4_makeCut 5 = .ok (.iload_n 2, 1) := by decide +kernel
theorem dX4_makeCut_6 : decode cX4_makeCut 6 = .ok (.i2l, 1) := by decide +kernel
theorem dX4_makeCut_7 : decode cX4_makeCut 7 = .ok (.ldc2_w 45, 3) := by decide +kernel
theorem dX4_makeCut_10 : decode cX4_makeCut 10 = .ok (.getstatic 47, 3) := by decide +kernel
theorem dX4_makeCut_13 : decode cX4_makeCut 13 = .ok (.iload_n 1, 1) := by decide +kernel
theorem dX4_makeCut_14 : decode cX4_makeCut 14 = .ok (.laload, 1) := by decide +kernel
theorem dX4_makeCut_15 : decode cX4_makeCut 15 = .ok (.lsub, 1) := by decide +kernel
theorem dX4_makeCut_16 : decode cX4_makeCut 16 = .ok (.lmul, 1) := by decide +kernel
theorem dX4_makeCut_17 : decode cX4_makeCut 17 = .ok (.lstore 5, 2) := by decide +kernel
theorem dX4_makeCut_19 : decode cX4_makeCut 19 = .ok (.iconst 0, 1) := by decide +kernel
theorem dX4_makeCut_20 : decode cX4_makeCut 20 = .ok (.istore 7, 2) := by decide +kernel
theorem dX4_makeCut_22 : decode cX4_makeCut 22 = .ok (.iload 7, 2) := by decide +kernel
theorem dX4_makeCut_24 : decode cX4_makeCut 24 = .ok (.iload_n 3, 1) := by decide +kernel
theorem dX4_makeCut_25 : decode cX4_makeCut 25 = .ok (.if_icmp .ge 62, 3) := by decide +kernel
theorem dX4_makeCut_28 : decode cX4_makeCut 28 = .ok (.iload 7, 2) := by decide +kernel
theorem dX4_makeCut_30 : decode cX4_makeCut 30 = .ok (.iload 4, 2) := by decide +kernel
theorem dX4_makeCut_32 : decode cX4_makeCut 32 = .ok (.iand, 1) := by decide +kernel
theorem dX4_makeCut_33 : decode cX4_makeCut 33 = .ok (.ifCond .eq 48, 3) := by decide +kernel
theorem dX4_makeCut_36 : decode cX4_makeCut 36 = .ok (.aload_n 0, 1) := by decide +kernel
theorem dX4_makeCut_37 : decode cX4_makeCut 37 = .ok (.getfield 19, 3) := by decide +kernel
theorem dX4_makeCut_40 : decode cX4_makeCut 40 = .ok (.iload 7, 2) := by decide +kernel
theorem dX4_makeCut_42 : decode cX4_makeCut 42 = .ok (.iload 4, 2) := by decide +kernel
theorem dX4_makeCut_44 : decode cX4_makeCut 44 = .ok (.ixor, 1) := by decide +kernel
theorem dX4_makeCut_45 : decode cX4_makeCut 45 = .ok (.laload, 1) := by decide +kernel
theorem dX4_makeCut_46 : decode cX4_makeCut 46 = .ok (.lconst 0, 1) := by decide +kernel
theorem dX4_makeCut_47 : decode cX4_makeCut 47 = .ok (.lcmp, 1) := by decide +kernel
theorem dX4_makeCut_48 : decode cX4_makeCut 48 = .ok (.ifCond .lt 33, 3) := by decide +kernel
theorem dX4_makeCut_51 : decode cX4_makeCut 51 = .ok (.aload_n 0, 1) := by decide +kernel
theorem dX4_makeCut_52 : decode cX4_makeCut 52 = .ok (.getfield 19, 3) := by decide +kernel
theorem dX4_makeCut_55 : decode cX4_makeCut 55 = .ok (.iload 7, 2) := by decide +kernel
theorem dX4_makeCut_57 : decode cX4_makeCut 57 = .ok (.aload_n 0, 1) := by decide +kernel
theorem dX4_makeCut_58 : decode cX4_makeCut 58 = .ok (.getfield 19, 3) := by decide +kernel
theorem dX4_makeCut_61 : decode cX4_makeCut 61 = .ok (.iload 7, 2) := by decide +kernel
theorem dX4_makeCut_63 : decode cX4_makeCut 63 = .ok (.laload, 1) := by decide +kernel
theorem dX4_makeCut_64 : decode cX4_makeCut 64 = .ok (.aload_n 0, 1) := by decide +kernel
theorem dX4_makeCut_65 : decode cX4_makeCut 65 = .ok (.getfield 19, 3) := by decide +kernel
theorem dX4_makeCut_68 : decode cX4_makeCut 68 = .ok (.iload 7, 2) := by decide +kernel
theorem dX4_makeCut_70 : decode cX4_makeCut 70 = .ok (.iload 4, 2) := by decide +kernel
theorem dX4_makeCut_72 : decode cX4_makeCut 72 = .ok (.ixor, 1) := by decide +kernel
theorem dX4_makeCut_73 : decode cX4_makeCut 73 = .ok (.laload, 1) := by decide +kernel
theorem dX4_makeCut_74 : decode cX4_makeCut 74 = .ok (.lload 5, 2) := by decide +kernel
theorem dX4_makeCut_76 : decode cX4_makeCut 76 = .ok (.ladd, 1) := by decide +kernel
theorem dX4_makeCut_77 : decode cX4_makeCut 77 = .ok (.invokestatic 50, 3) := by decide +kernel
theorem dX4_makeCut_80 : decode cX4_makeCut 80 = .ok (.lastore, 1) := by decide +kernel
theorem dX4_makeCut_81 : decode cX4_makeCut 81 = .ok (.iinc 7 1, 3) := by decide +kernel
theorem dX4_makeCut_84 : decode cX4_makeCut 84 = .ok (.goto (-62), 3) := by decide +kernel
theorem dX4_makeCut_87 : decode cX4_makeCut 87 = .ok (.return_, 1) := by decide +kernel
theorem dX4_keepPaid_0 : decode cX4_keepPaid 0 = .ok (.iconst 0, 1) := by decide +kernel
theorem dX4_keepPaid_1 : decode cX4_keepPaid 1 = .ok (.istore_n 3, 1) := by decide +kernel
theorem dX4_keepPaid_2 : decode cX4_keepPaid 2 = .ok (.iload_n 3, 1) := by decide +kernel
theorem dX4_keepPaid_3 : decode cX4_keepPaid 3 = .ok (.iload_n 2, 1) := by decide +kernel
theorem dX4_keepPaid_4 : decode cX4_keepPaid 4 = .ok (.if_icmp .ge 33, 3) := by decide +kernel
theorem dX4_keepPaid_7 : decode cX4_keepPaid 7 = .ok (.aload_n 0, 1) := by decide +kernel
theorem dX4_keepPaid_8 : decode cX4_keepPaid 8 = .ok (.getfield 15, 3) := by decide +kernel
theorem dX4_keepPaid_11 : decode cX4_keepPaid 11 = .ok (.iload_n 3, 1) := by decide +kernel
theorem dX4_keepPaid_12 : decode cX4_keepPaid 12 = .ok (.laload, 1) := by decide +kernel
theorem dX4_keepPaid_13 : decode cX4_keepPaid 13 = .ok (.iload_n 1, 1) := by decide +kernel
theorem dX4_keepPaid_14 : decode cX4_keepPaid 14 = .ok (.lshr, 1) := by decide +kernel
theorem dX4_keepPaid_15 : decode cX4_keepPaid 15 = .ok (.lconst 1, 1) := by decide +kernel
theorem dX4_keepPaid_16 : decode cX4_keepPaid 16 = .ok (.land, 1) := by decide +kernel
theorem dX4_keepPaid_17 : decode cX4_keepPaid 17 = .ok (.lconst 0, 1) := by decide +kernel
theorem dX4_keepPaid_18 : decode cX4_keepPaid 18 = .ok (.lcmp, 1) := by decide +kernel
theorem dX4_keepPaid_19 : decode cX4_keepPaid 19 = .ok (.ifCond .ne 12, 3) := by decide +kernel
theorem dX4_keepPaid_22 : decode cX4_keepPaid 22 = .ok (.aload_n 0, 1) := by decide +kernel
theorem dX4_keepPaid_23 : decode cX4_keepPaid 23 = .ok (.getfield 19, 3) := by decide +kernel
theorem dX4_keepPaid_26 : decode cX4_keepPaid 26 = .ok (.iload_n 3, 1) := by decide +kernel
theorem dX4_keepPaid_27 : decode cX4_keepPaid 27 = .ok (.ldc2_w 31, 3) := by decide +kernel
theorem dX4_keepPaid_30 : decode cX4_keepPaid 30 = .ok (.lastore, 1) := by decide +kernel
theorem dX4_keepPaid_31 : decode cX4_keepPaid 31 = .ok (.iinc 3 1, 3) := by decide +kernel
theorem dX4_keepPaid_34 : decode cX4_keepPaid 34 = .ok (.goto (-32), 3) := by decide +kernel
theorem dX4_keepPaid_37 : decode cX4_keepPaid 37 = .ok (.return_, 1) := by decide +kernel
theorem dX4_together_0 : decode cX4_together 0 = .ok (.aload_n 0, 1) := by decide +kernel
theorem dX4_together_1 : decode cX4_together 1 = .ok (.getfield 41, 3) := by decide +kernel
theorem dX4_together_4 : decode cX4_together 4 = .ok (.ldc2_w 45, 3) := by decide +kernel
theorem dX4_together_7 : decode cX4_together 7 = .ok (.ladd, 1) := by decide +kernel
theorem dX4_together_8 : decode cX4_together 8 = .ok (.lconst 1, 1) := by decide +kernel
theorem dX4_together_9 : decode cX4_together 9 = .ok (.lsub, 1) := by decide +kernel
theorem dX4_together_10 : decode cX4_together 10 = .ok (.ldc2_w 45, 3) := by decide +kernel
theorem dX4_together_13 : decode cX4_together 13 = .ok (.ldiv, 1) := by decide +kernel
theorem dX4_together_14 : decode cX4_together 14 = .ok (.l2i, 1) := by decide +kernel
theorem dX4_together_15 : decode cX4_together 15 = .ok (.ireturn, 1) := by decide +kernel
set_option maxRecDepth 20000 in
theorem ggX4_dayOf_X4_together : GoodIn wsX4_dayOf wsX4_together := goodIn_r _ [9, 2, 1, 10, 11, 12, 13] (by decide +kernel) (by decide +kernel)
set_option maxRecDepth 20000 in
theorem gX4_dayOf_X4_together : GoodIn wsX4_dayOf (wsV RX4 56 RX4 yX4_together wsX4_together) := goodIn_app (goodIn_of _ (by decide +kernel)) ggX4_dayOf_X4_together
theorem dX4_dayOf_0 : decode cX4_dayOf 0 = .ok (.aload_n 0, 1) := by decide +kernel
theorem dX4_dayOf_1 : decode cX4_dayOf 1 = .ok (.invokevirtual 56, 3) := by decide +kernel
theorem dX4_dayOf_4 : decode cX4_dayOf 4 = .ok (.i2l, 1) := by decide +kernel
theorem dX4_dayOf_5 : decode cX4_dayOf 5 = .ok (.ldc2_w 45, 3) := by decide +kernel
theorem dX4_dayOf_8 : decode cX4_dayOf 8 = .ok (.lmul, 1) := by decide +kernel
theorem dX4_dayOf_9 : decode cX4_dayOf 9 = .ok (.aload_n 0, 1) := by decide +kernel
theorem dX4_dayOf_10 : decode cX4_dayOf 10 = .ok (.getfield 41, 3) := by decide +kernel
theorem dX4_dayOf_13 : decode cX4_dayOf 13 = .ok (.lsub, 1) := by decide +kernel
theorem dX4_dayOf_14 : decode cX4_dayOf 14 = .ok (.lstore_n 2, 1) := by decide +kernel
theorem dX4_dayOf_15 : decode cX4_dayOf 15 = .ok (.lload_n 2, 1) := by decide +kernel
theorem dX4_dayOf_16 : decode cX4_dayOf 16 = .ok (.getstatic 47, 3) := by decide +kernel
theorem dX4_dayOf_19 : decode cX4_dayOf 19 = .ok (.iload_n 1, 1) := by decide +kernel
theorem dX4_dayOf_20 : decode cX4_dayOf 20 = .ok (.laload, 1) := by decide +kernel
theorem dX4_dayOf_21 : decode cX4_dayOf 21 = .ok (.ldiv, 1) := by decide +kernel
theorem dX4_dayOf_22 : decode cX4_dayOf 22 = .ok (.ldc2_w 60, 3) := by decide +kernel
theorem dX4_dayOf_25 : decode cX4_dayOf 25 = .ok (.lrem, 1) := by decide +kernel
theorem dX4_dayOf_26 : decode cX4_dayOf 26 = .ok (.l2i, 1) := by decide +kernel
theorem dX4_dayOf_27 : decode cX4_dayOf 27 = .ok (.ireturn, 1) := by decide +kernel
theorem dX5_init_0 : decode cX5_init 0 = .ok (.aload_n 0, 1) := by decide +kernel
theorem dX5_init_1 : decode cX5_init 1 = .ok (.invokespecial 3, 3) := by decide +kernel
theorem dX5_init_4 : decode cX5_init 4 = .ok (.aload_n 0, 1) := by decide +kernel
theorem dX5_init_5 : decode cX5_init 5 = .ok (.bipush 11, 2) := by decide +kernel
theorem dX5_init_7 : decode cX5_init 7 = .ok (.newarray .int, 2) := by decide +kernel
theorem dX5_init_9 : decode cX5_init 9 = .ok (.putfield 9, 3) := by decide +kernel
theorem dX5_init_12 : decode cX5_init 12 = .ok (.aload_n 0, 1) := by decide +kernel
theorem dX5_init_13 : decode cX5_init 13 = .ok (.bipush 11, 2) := by decide +kernel
theorem dX5_init_15 : decode cX5_init 15 = .ok (.newarray .int, 2) := by decide +kernel
theorem dX5_init_17 : decode cX5_init 17 = .ok (.putfield 15, 3) := by decide +kernel
theorem dX5_init_20 : decode cX5_init 20 = .ok (.aload_n 0, 1) := by decide +kernel
theorem dX5_init_21 : decode cX5_init 21 = .ok (.bipush 11, 2) := by decide +kernel
theorem dX5_init_23 : decode cX5_init 23 = .ok (.newarray .int, 2) := by decide +kernel
theorem dX5_init_25 : decode cX5_init 25 = .ok (.putfield 18, 3) := by decide +kernel
theorem dX5_init_28 : decode cX5_init 28 = .ok (.return_, 1) := by decide +kernel
set_option maxRecDepth 20000 in
theorem ggX5_split_X1_losesLinks : GoodIn wsX5_split wsX1_losesLinks := goodIn_r _ [8, 9, 32, 33, 34, 35, 36, 37] (by decide +kernel) (by decide +kernel)
set_option maxRecDepth 20000 in
theorem gX5_split_X1_losesLinks : GoodIn wsX5_split (wsV RX5 25 RX1 yX1_losesLinks wsX1_losesLinks) := goodIn_app (goodIn_of _ (by decide +kernel)) ggX5_split_X1_losesLinks
set_option maxRecDepth 20000 in
theorem ggX5_split_X5_add : GoodIn wsX5_split wsX5_add := goodIn_r _ [14, 15, 1, 16, 17, 18, 28, 29, 30, 31, 32, 33, 34, 35, 36, 37] (by decide +kernel) (by decide +kernel)
set_option maxRecDepth 20000 in
theorem gX5_split_X5_add : GoodIn wsX5_split (wsV RX5 31 RX5 yX5_add wsX5_add) := goodIn_app (goodIn_of _ (by decide +kernel)) ggX5_split_X5_add
set_option maxRecDepth 20000 in
theorem ggX5_split_X5_lose : GoodIn wsX5_split wsX5_lose := goodIn_r _ [22, 3, 23, 17, 1, 32, 33, 34, 35, 36, 37, 28, 29, 30, 31] (by decide +kernel) (by decide +kernel)
set_option maxRecDepth 20000 in
theorem gX5_split_X5_lose : GoodIn wsX5_split (wsV RX5 35 RX5 yX5_lose wsX5_lose) := goodIn_app (goodIn_of _ (by decide +kernel)) ggX5_split_X5_lose
set_option maxRecDepth 20000 in
theorem ggX5_split_X5_joinEnds : GoodIn wsX5_split wsX5_joinEnds := goodIn_r _ [27, 16, 1, 17, 15, 28, 29, 30, 31] (by decide +kernel) (by decide +kernel)
set_option maxRecDepth 20000 in
theorem gX5_split_X5_joinEnds : GoodIn wsX5_split (wsV RX5 45 RX5 yX5_joinEnds wsX5_joinEnds) := goodIn_app (goodIn_of _ (by decide +kernel)) ggX5_split_X5_joinEnds
theorem dX5_split_0 : decode cX5_split 0 = .ok (.aload_n 0, 1) := by decide +kernel
theorem dX5_split_1 : decode cX5_split 1 = .ok (.iconst 0, 1) := by decide +kernel
theorem dX5_split_2 : decode cX5_split 2 = .ok (.putfield 21, 3) := by decide +kernel
theorem dX5_split_5 : decode cX5_split 5 = .ok (.iconst 0, 1) := by decide +kernel
theorem dX5_split_6 : decode cX5_split 6 = .ok (.istore 4, 2) := by decide +kernel
theorem dX5_split_8 : decode cX5_split 8 = .ok (.iconst 0, 1) := by decide +kernel
theorem dX5_split_9 : decode cX5_split 9 = .ok (.istore 5, 2) := by decide +kernel
theorem dX5_split_11 : decode cX5_split 11 = .ok (.iload 5, 2) := by decide +kernel
theorem dX5_split_13 : decode cX5_split 13 = .ok (.iload_n 3, 1) := by decide +kernel
theorem dX5_split_14 : decode cX5_split 14 = .ok (.if_icmp .ge 69, 3) := by decide +kernel
theorem dX5_split_17 : decode cX5_split 17 = .ok (.aload_n 2, 1) := by decide +kernel
theorem dX5_split_18 : decode cX5_split 18 = .ok (.iload 5, 2) := by decide +kernel
theorem dX5_split_20 : decode cX5_split 20 = .ok (.iaload, 1) := by decide +kernel
theorem dX5_split_21 : decode cX5_split 21 = .ok (.istore 6, 2) := by decide +kernel
theorem dX5_split_23 : decode cX5_split 23 = .ok (.aload_n 1, 1) := by decide +kernel
theorem dX5_split_24 : decode cX5_split 24 = .ok (.invokevirtual 25, 3) := by decide +kernel
theorem dX5_split_27 : decode cX5_split 27 = .ok (.ifCond .eq 26, 3) := by decide +kernel
theorem dX5_split_30 : decode cX5_split 30 = .ok (.aload_n 0, 1) := by decide +kernel
theorem dX5_split_31 : decode cX5_split 31 = .ok (.aload_n 1, 1) := by decide +kernel
theorem dX5_split_32 : decode cX5_split 32 = .ok (.iload 4, 2) := by decide +kernel
theorem dX5_split_34 : decode cX5_split 34 = .ok (.iload 6, 2) := by decide +kernel
theorem dX5_split_36 : decode cX5_split 36 = .ok (.invokevirtual 31, 3) := by decide +kernel
theorem dX5_split_39 : decode cX5_split 39 = .ok (.aload_n 0, 1) := by decide +kernel
theorem dX5_split_40 : decode cX5_split 40 = .ok (.aload_n 1, 1) := by decide +kernel
theorem dX5_split_41 : decode cX5_split 41 = .ok (.iload 6, 2) := by decide +kernel
theorem dX5_split_43 : decode cX5_split 43 = .ok (.iload 6, 2) := by decide +kernel
theorem dX5_split_45 : decode cX5_split 45 = .ok (.iconst 1, 1) := by decide +kernel
theorem dX5_split_46 : decode cX5_split 46 = .ok (.iadd, 1) := by decide +kernel
theorem dX5_split_47 : decode cX5_split 47 = .ok (.invokevirtual 31, 3) := by decide +kernel
theorem dX5_split_50 : decode cX5_split 50 = .ok (.goto 21, 3) := by decide +kernel
theorem dX5_split_53 : decode cX5_split 53 = .ok (.aload_n 0, 1) := by decide +kernel
theorem dX5_split_54 : decode cX5_split 54 = .ok (.aload_n 1, 1) := by decide +kernel
theorem dX5_split_55 : decode cX5_split 55 = .ok (.iload 4, 2) := by decide +kernel
theorem dX5_split_57 : decode cX5_split 57 = .ok (.iload 6, 2) := by decide +kernel
theorem dX5_split_59 : decode cX5_split 59 = .ok (.iconst 1, 1) := by decide +kernel
theorem dX5_split_60 : decode cX5_split 60 = .ok (.iadd, 1) := by decide +kernel
theorem dX5_split_61 : decode cX5_split 61 = .ok (.invokevirtual 31, 3) := by decide +kernel
theorem dX5_split_64 : decode cX5_split 64 = .ok (.aload_n 0, 1) := by decide +kernel
theorem dX5_split_65 : decode cX5_split 65 = .ok (.aload_n 1, 1) := by decide +kernel
theorem dX5_split_66 : decode cX5_split 66 = .ok (.iload 6, 2) := by decide +kernel
theorem dX5_split_68 : decode cX5_split 68 = .ok (.invokevirtual 35, 3) := by decide +kernel
theorem dX5_split_71 : decode cX5_split 71 = .ok (.iload 6, 2) := by decide +kernel
theorem dX5_split_73 : decode cX5_split 73 = .ok (.iconst 1, 1) := by decide +kernel
theorem dX5_split_74 : decode cX5_split 74 = .ok (.iadd, 1) := by decide +kernel
theorem dX5_split_75 : decode cX5_split 75 = .ok (.istore 4, 2) := by decide +kernel
theorem dX5_split_77 : decode cX5_split 77 = .ok (.iinc 5 1, 3) := by decide +kernel
theorem dX5_split_80 : decode cX5_split 80 = .ok (.goto (-69), 3) := by decide +kernel
theorem dX5_split_83 : decode cX5_split 83 = .ok (.aload_n 0, 1) := by decide +kernel
theorem dX5_split_84 : decode cX5_split 84 = .ok (.aload_n 1, 1) := by decide +kernel
theorem dX5_split_85 : decode cX5_split 85 = .ok (.iload 4, 2) := by decide +kernel
theorem dX5_split_87 : decode cX5_split 87 = .ok (.aload_n 1, 1) := by decide +kernel
theorem dX5_split_88 : decode cX5_split 88 = .ok (.getfield 39, 3) := by decide +kernel
theorem dX5_split_91 : decode cX5_split 91 = .ok (.invokevirtual 31, 3) := by decide +kernel
theorem dX5_split_94 : decode cX5_split 94 = .ok (.aload_n 1, 1) := by decide +kernel
theorem dX5_split_95 : decode cX5_split 95 = .ok (.getfield 42, 3) := by decide +kernel
theorem dX5_split_98 : decode cX5_split 98 = .ok (.iconst 1, 1) := by decide +kernel
theorem dX5_split_99 : decode cX5_split 99 = .ok (.if_icmp .ne 31, 3) := by decide +kernel
theorem dX5_split_102 : decode cX5_split 102 = .ok (.iload_n 3, 1) := by decide +kernel
theorem dX5_split_103 : decode cX5_split 103 = .ok (.ifCond .le 27, 3) := by decide +kernel
theorem dX5_split_106 : decode cX5_split 106 = .ok (.aload_n 2, 1) := by decide +kernel
theorem dX5_split_107 : decode cX5_split 107 = .ok (.iconst 0, 1) := by decide +kernel
theorem dX5_split_108 : decode cX5_split 108 = .ok (.iaload, 1) := by decide +kernel
theorem dX5_split_109 : decode cX5_split 109 = .ok (.ifCond .eq 21, 3) := by decide +kernel
theorem dX5_split_112 : decode cX5_split 112 = .ok (.aload_n 2, 1) := by decide +kernel
theorem dX5_split_113 : decode cX5_split 113 = .ok (.iload_n 3, 1) := by decide +kernel
theorem dX5_split_114 : decode cX5_split 114 = .ok (.iconst 1, 1) := by decide +kernel
theorem dX5_split_115 : decode cX5_split 115 = .ok (.isub, 1) := by decide +kernel
theorem dX5_split_116 : decode cX5_split 116 = .ok (.iaload, 1) := by decide +kernel
theorem dX5_split_117 : decode cX5_split 117 = .ok (.aload_n 1, 1) := by decide +kernel
theorem dX5_split_118 : decode cX5_split 118 = .ok (.getfield 39, 3) := by decide +kernel
theorem dX5_split_121 : decode cX5_split 121 = .ok (.iconst 1, 1) := by decide +kernel
theorem dX5_split_122 : decode cX5_split 122 = .ok (.isub, 1) := by decide +kernel
theorem dX5_split_123 : decode cX5_split 123 = .ok (.if_icmp .eq 7, 3) := by decide +kernel
theorem dX5_split_126 : decode cX5_split 126 = .ok (.aload_n 0, 1) := by decide +kernel
theorem dX5_split_127 : decode cX5_split 127 = .ok (.invokevirtual 45, 3) := by decide +kernel
theorem dX5_split_130 : decode cX5_split 130 = .ok (.return_, 1) := by decide +kernel
theorem dX5_add_0 : decode cX5_add 0 = .ok (.iload_n 2, 1) := by decide +kernel
theorem dX5_add_1 : decode cX5_add 1 = .ok (.iload_n 3, 1) := by decide +kernel
theorem dX5_add_2 : decode cX5_add 2 = .ok (.if_icmp .ge 57, 3) := by decide +kernel
theorem dX5_add_5 : decode cX5_add 5 = .ok (.aload_n 0, 1) := by decide +kernel
theorem dX5_add_6 : decode cX5_add 6 = .ok (.getfield 9, 3) := by decide +kernel
theorem dX5_add_9 : decode cX5_add 9 = .ok (.aload_n 0, 1) := by decide +kernel
theorem dX5_add_10 : decode cX5_add 10 = .ok (.getfield 21, 3) := by decide +kernel
theorem dX5_add_13 : decode cX5_add 13 = .ok (.iload_n 2, 1) := by decide +kernel
theorem dX5_add_14 : decode cX5_add 14 = .ok (.iastore, 1) := by decide +kernel
theorem dX5_add_15 : decode cX5_add 15 = .ok (.aload_n 0, 1) := by decide +kernel
theorem dX5_add_16 : decode cX5_add 16 = .ok (.getfield 15, 3) := by decide +kernel
theorem dX5_add_19 : decode cX5_add 19 = .ok (.aload_n 0, 1) := by decide +kernel
theorem dX5_add_20 : decode cX5_add 20 = .ok (.getfield 21, 3) := by decide +kernel
theorem dX5_add_23 : decode cX5_add 23 = .ok (.iload_n 3, 1) := by decide +kernel
theorem dX5_add_24 : decode cX5_add 24 = .ok (.iload_n 2, 1) := by decide +kernel
theorem dX5_add_25 : decode cX5_add 25 = .ok (.isub, 1) := by decide +kernel
theorem dX5_add_26 : decode cX5_add 26 = .ok (.iastore, 1) := by decide +kernel
theorem dX5_add_27 : decode cX5_add 27 = .ok (.aload_n 0, 1) := by decide +kernel
theorem dX5_add_28 : decode cX5_add 28 = .ok (.getfield 18, 3) := by decide +kernel
theorem dX5_add_31 : decode cX5_add 31 = .ok (.aload_n 0, 1) := by decide +kernel
theorem dX5_add_32 : decode cX5_add 32 = .ok (.getfield 21, 3) := by decide +kernel
theorem dX5_add_35 : decode cX5_add 35 = .ok (.aload_n 1, 1) := by decide +kernel
theorem dX5_add_36 : decode cX5_add 36 = .ok (.getfield 48, 3) := by decide +kernel
theorem dX5_add_39 : decode cX5_add 39 = .ok (.iload_n 3, 1) := by decide +kernel
theorem dX5_add_40 : decode cX5_add 40 = .ok (.iaload, 1) := by decide +kernel
theorem dX5_add_41 : decode cX5_add 41 = .ok (.aload_n 1, 1) := by decide +kernel
theorem dX5_add_42 : decode cX5_add 42 = .ok (.getfield 48, 3) := by decide +kernel
theorem dX5_add_45 : decode cX5_add 45 = .ok (.iload_n 2, 1) := by decide +kernel
theorem dX5_add_46 : decode cX5_add 46 = .ok (.iaload, 1) := by decide +kernel
theorem dX5_add_47 : decode cX5_add 47 = .ok (.isub, 1) := by decide +kernel
theorem dX5_add_48 : decode cX5_add 48 = .ok (.iastore, 1) := by decide +kernel
theorem dX5_add_49 : decode cX5_add 49 = .ok (.aload_n 0, 1) := by decide +kernel
theorem dX5_add_50 : decode cX5_add 50 = .ok (.dup, 1) := by decide +kernel
theorem dX5_add_51 : decode cX5_add 51 = .ok (.getfield 21, 3) := by decide +kernel
theorem dX5_add_54 : decode cX5_add 54 = .ok (.iconst 1, 1) := by decide +kernel
theorem dX5_add_55 : decode cX5_add 55 = .ok (.iadd, 1) := by decide +kernel
theorem dX5_add_56 : decode cX5_add 56 = .ok (.putfield 21, 3) := by decide +kernel
theorem dX5_add_59 : decode cX5_add 59 = .ok (.return_, 1) := by decide +kernel
theorem dX5_lose_0 : decode cX5_lose 0 = .ok (.aload_n 1, 1) := by decide +kernel
theorem dX5_lose_1 : decode cX5_lose 1 = .ok (.getfield 42, 3) := by decide +kernel
theorem dX5_lose_4 : decode cX5_lose 4 = .ok (.iconst 3, 1) := by decide +kernel
theorem dX5_lose_5 : decode cX5_lose 5 = .ok (.if_icmp .ne 28, 3) := by decide +kernel
theorem dX5_lose_8 : decode cX5_lose 8 = .ok (.aload_n 1, 1) := by decide +kernel
theorem dX5_lose_9 : decode cX5_lose 9 = .ok (.getfield 51, 3) := by decide +kernel
theorem dX5_lose_12 : decode cX5_lose 12 = .ok (.iload_n 2, 1) := by decide +kernel
theorem dX5_lose_13 : decode cX5_lose 13 = .ok (.iaload, 1) := by decide +kernel
theorem dX5_lose_14 : decode cX5_lose 14 = .ok (.iconst 1, 1) := by decide +kernel
theorem dX5_lose_15 : decode cX5_lose 15 = .ok (.if_icmp .le 18, 3) := by decide +kernel
theorem dX5_lose_18 : decode cX5_lose 18 = .ok (.aload_n 0, 1) := by decide +kernel
theorem dX5_lose_19 : decode cX5_lose 19 = .ok (.getfield 18, 3) := by decide +kernel
theorem dX5_lose_22 : decode cX5_lose 22 = .ok (.aload_n 0, 1) := by decide +kernel
theorem dX5_lose_23 : decode cX5_lose 23 = .ok (.getfield 21, 3) := by decide +kernel
theorem dX5_lose_26 : decode cX5_lose 26 = .ok (.iconst 1, 1) := by decide +kernel
theorem dX5_lose_27 : decode cX5_lose 27 = .ok (.isub, 1) := by decide +kernel
theorem dX5_lose_28 : decode cX5_lose 28 = .ok (.dup2, 1) := by decide +kernel
theorem dX5_lose_29 : decode cX5_lose 29 = .ok (.iaload, 1) := by decide +kernel
theorem dX5_lose_30 : decode cX5_lose 30 = .ok (.iconst 1, 1) := by decide +kernel
theorem dX5_lose_31 : decode cX5_lose 31 = .ok (.isub, 1) := by decide +kernel
theorem dX5_lose_32 : decode cX5_lose 32 = .ok (.iastore, 1) := by decide +kernel
theorem dX5_lose_33 : decode cX5_lose 33 = .ok (.return_, 1) := by decide +kernel
theorem dX5_joinEnds_0 : decode cX5_joinEnds 0 = .ok (.aload_n 0, 1) := by decide +kernel
theorem dX5_joinEnds_1 : decode cX5_joinEnds 1 = .ok (.getfield 15, 3) := by decide +kernel
theorem dX5_joinEnds_4 : decode cX5_joinEnds 4 = .ok (.aload_n 0, 1) := by decide +kernel
theorem dX5_joinEnds_5 : decode cX5_joinEnds 5 = .ok (.getfield 21, 3) := by decide +kernel
theorem dX5_joinEnds_8 : decode cX5_joinEnds 8 = .ok (.iconst 1, 1) := by decide +kernel
theorem dX5_joinEnds_9 : decode cX5_joinEnds 9 = .ok (.isub, 1) := by decide +kernel
theorem dX5_joinEnds_10 : decode cX5_joinEnds 10 = .ok (.dup2, 1) := by decide +kernel
theorem dX5_joinEnds_11 : decode cX5_joinEnds 11 = .ok (.iaload, 1) := by decide +kernel
theorem dX5_joinEnds_12 : decode cX5_joinEnds 12 = .ok (.aload_n 0, 1) := by decide +kernel
theorem dX5_joinEnds_13 : decode cX5_joinEnds 13 = .ok (.getfield 15, 3) := by decide +kernel
theorem dX5_joinEnds_16 : decode cX5_joinEnds 16 = .ok (.iconst 0, 1) := by decide +kernel
theorem dX5_joinEnds_17 : decode cX5_joinEnds 17 = .ok (.iaload, 1) := by decide +kernel
theorem dX5_joinEnds_18 : decode cX5_joinEnds 18 = .ok (.iadd, 1) := by decide +kernel
theorem dX5_joinEnds_19 : decode cX5_joinEnds 19 = .ok (.iastore, 1) := by decide +kernel
theorem dX5_joinEnds_20 : decode cX5_joinEnds 20 = .ok (.aload_n 0, 1) := by decide +kernel
theorem dX5_joinEnds_21 : decode cX5_joinEnds 21 = .ok (.getfield 18, 3) := by decide +kernel
theorem dX5_joinEnds_24 : decode cX5_joinEnds 24 = .ok (.aload_n 0, 1) := by decide +kernel
theorem dX5_joinEnds_25 : decode cX5_joinEnds 25 = .ok (.getfield 21, 3) := by decide +kernel
theorem dX5_joinEnds_28 : decode cX5_joinEnds 28 = .ok (.iconst 1, 1) := by decide +kernel
theorem dX5_joinEnds_29 : decode cX5_joinEnds 29 = .ok (.isub, 1) := by decide +kernel
theorem dX5_joinEnds_30 : decode cX5_joinEnds 30 = .ok (.dup2, 1) := by decide +kernel
theorem dX5_joinEnds_31 : decode cX5_joinEnds 31 = .ok (.iaload, 1) := by decide +kernel
theorem dX5_joinEnds_32 : decode cX5_joinEnds 32 = .ok (.aload_n 0, 1) := by decide +kernel
theorem dX5_joinEnds_33 : decode cX5_joinEnds 33 = .ok (.getfield 18, 3) := by decide +kernel
theorem dX5_joinEnds_36 : decode cX5_joinEnds 36 = .ok (.iconst 0, 1) := by decide +kernel
theorem dX5_joinEnds_37 : decode cX5_joinEnds 37 = .ok (.iaload, 1) := by decide +kernel
theorem dX5_joinEnds_38 : decode cX5_joinEnds 38 = .ok (.iadd, 1) := by decide +kernel
theorem dX5_joinEnds_39 : decode cX5_joinEnds 39 = .ok (.iastore, 1) := by decide +kernel
theorem dX5_joinEnds_40 : decode cX5_joinEnds 40 = .ok (.aload_n 0, 1) := by decide +kernel
theorem dX5_joinEnds_41 : decode cX5_joinEnds 41 = .ok (.dup, 1) := by decide +kernel
theorem dX5_joinEnds_42 : decode cX5_joinEnds 42 = .ok (.getfield 21, 3) := by decide +kernel
theorem dX5_joinEnds_45 : decode cX5_joinEnds 45 = .ok (.iconst 1, 1) := by decide +kernel
theorem dX5_joinEnds_46 : decode cX5_joinEnds 46 = .ok (.isub, 1) := by decide +kernel
theorem dX5_joinEnds_47 : decode cX5_joinEnds 47 = .ok (.putfield 21, 3) := by decide +kernel
theorem dX5_joinEnds_50 : decode cX5_joinEnds 50 = .ok (.iconst 0, 1) := by decide +kernel
theorem dX5_joinEnds_51 : decode cX5_joinEnds 51 = .ok (.istore_n 1, 1) := by decide +kernel
theorem dX5_joinEnds_52 : decode cX5_joinEnds 52 = .ok (.iload_n 1, 1) := by decide +kernel
theorem dX5_joinEnds_53 : decode cX5_joinEnds 53 = .ok (.aload_n 0, 1) := by decide +kernel
theorem dX5_joinEnds_54 : decode cX5_joinEnds 54 = .ok (.getfield 21, 3) := by decide +kernel
theorem dX5_joinEnds_57 : decode cX5_joinEnds 57 = .ok (.if_icmp .ge 51, 3) := by decide +kernel
theorem dX5_joinEnds_60 : decode cX5_joinEnds 60 = .ok (.aload_n 0, 1) := by decide +kernel
theorem dX5_joinEnds_61 : decode cX5_joinEnds 61 = .ok (.getfield 9, 3) := by decide +kernel
theorem dX5_joinEnds_64 : decode cX5_joinEnds 64 = .ok (.iload_n 1, 1) := by decide +kernel
theorem dX5_joinEnds_65 : decode cX5_joinEnds 65 = .ok (.aload_n 0, 1) := by decide +kernel
theorem dX5_joinEnds_66 : decode cX5_joinEnds 66 = .ok (.getfield 9, 3) := by decide +kernel
theorem dX5_joinEnds_69 : decode cX5_joinEnds 69 = .ok (.iload_n 1, 1) := by decide +kernel
theorem dX5_joinEnds_70 : decode cX5_joinEnds 70 = .ok (.iconst 1, 1) := by decide +kernel
theorem dX5_joinEnds_71 : decode cX5_joinEnds 71 = .ok (.iadd, 1) := by decide +kernel
theorem dX5_joinEnds_72 : decode cX5_joinEnds 72 = .ok (.iaload, 1) := by decide +kernel
theorem dX5_joinEnds_73 : decode cX5_joinEnds 73 = .ok (.iastore, 1) := by decide +kernel
theorem dX5_joinEnds_74 : decode cX5_joinEnds 74 = .ok (.aload_n 0, 1) := by decide +kernel
theorem dX5_joinEnds_75 : decode cX5_joinEnds 75 = .ok (.getfield 15, 3) := by decide +kernel
theorem dX5_joinEnds_78 : decode cX5_joinEnds 78 = .ok (.iload_n 1, 1) := by decide +kernel
theorem dX5_joinEnds_79 : decode cX5_joinEnds 79 = .ok (.aload_n 0, 1) := by decide +kernel
theorem dX5_joinEnds_80 : decode cX5_joinEnds 80 = .ok (.getfield 15, 3) := by decide +kernel
theorem dX5_joinEnds_83 : decode cX5_joinEnds 83 = .ok (.iload_n 1, 1) := by decide +kernel
theorem dX5_joinEnds_84 : decode cX5_joinEnds 84 = .ok (.iconst 1, 1) := by decide +kernel
theorem dX5_joinEnds_85 : decode cX5_joinEnds 85 = .ok (.iadd, 1) := by decide +kernel
theorem dX5_joinEnds_86 : decode cX5_joinEnds 86 = .ok (.iaload, 1) := by decide +kernel
theorem dX5_joinEnds_87 : decode cX5_joinEnds 87 = .ok (.iastore, 1) := by decide +kernel
theorem dX5_joinEnds_88 : decode cX5_joinEnds 88 = .ok (.aload_n 0, 1) := by decide +kernel
theorem dX5_joinEnds_89 : decode cX5_joinEnds 89 = .ok (.getfield 18, 3) := by decide +kernel
theorem dX5_joinEnds_92 : decode cX5_joinEnds 92 = .ok (.iload_n 1, 1) := by decide +kernel
theorem dX5_joinEnds_93 : decode cX5_joinEnds 93 = .ok (.aload_n 0, 1) := by decide +kernel
theorem dX5_joinEnds_94 : decode cX5_joinEnds 94 = .ok (.getfield 18, 3) := by decide +kernel
theorem dX5_joinEnds_97 : decode cX5_joinEnds 97 = .ok (.iload_n 1, 1) := by decide +kernel
theorem dX5_joinEnds_98 : decode cX5_joinEnds 98 = .ok (.iconst 1, 1) := by decide +kernel
theorem dX5_joinEnds_99 : decode cX5_joinEnds 99 = .ok (.iadd, 1) := by decide +kernel
theorem dX5_joinEnds_100 : decode cX5_joinEnds 100 = .ok (.iaload, 1) := by decide +kernel
theorem dX5_joinEnds_101 : decode cX5_joinEnds 101 = .ok (.iastore, 1) := by decide +kernel
theorem dX5_joinEnds_102 : decode cX5_joinEnds 102 = .ok (.iinc 1 1, 3) := by decide +kernel
theorem dX5_joinEnds_105 : decode cX5_joinEnds 105 = .ok (.goto (-53), 3) := by decide +kernel
theorem dX5_joinEnds_108 : decode cX5_joinEnds 108 = .ok (.return_, 1) := by decide +kernel
theorem dX5_whole_0 : decode cX5_whole 0 = .ok (.iconst 0, 1) := by decide +kernel
theorem dX5_whole_1 : decode cX5_whole 1 = .ok (.istore_n 1, 1) := by decide +kernel
theorem dX5_whole_2 : decode cX5_whole 2 = .ok (.iconst 0, 1) := by decide +kernel
theorem dX5_whole_3 : decode cX5_whole 3 = .ok (.istore_n 2, 1) := by decide +kernel
theorem dX5_whole_4 : decode cX5_whole 4 = .ok (.iload_n 2, 1) := by decide +kernel
theorem dX5_whole_5 : decode cX5_whole 5 = .ok (.aload_n 0, 1) := by decide +kernel
theorem dX5_whole_6 : decode cX5_whole 6 = .ok (.getfield 21, 3) := by decide +kernel
theorem dX5_whole_9 : decode cX5_whole 9 = .ok (.if_icmp .ge 18, 3) := by decide +kernel
theorem dX5_whole_12 : decode cX5_whole 12 = .ok (.iload_n 1, 1) := by decide +kernel
theorem dX5_whole_13 : decode cX5_whole 13 = .ok (.aload_n 0, 1) := by decide +kernel
theorem dX5_whole_14 : decode cX5_whole 14 = .ok (.getfield 18, 3) := by decide +kernel
theorem dX5_whole_17 : decode cX5_whole 17 = .ok (.iload_n 2, 1) := by decide +kernel
theorem dX5_whole_18 : decode cX5_whole 18 = .ok (.iaload, 1) := by decide +kernel
theorem dX5_whole_19 : decode cX5_whole 19 = .ok (.iadd, 1) := by decide +kernel
theorem dX5_whole_20 : decode cX5_whole 20 = .ok (.istore_n 1, 1) := by decide +kernel
theorem dX5_whole_21 : decode cX5_whole 21 = .ok (.iinc 2 1, 3) := by decide +kernel
theorem dX5_whole_24 : decode cX5_whole 24 = .ok (.goto (-20), 3) := by decide +kernel
theorem dX5_whole_27 : decode cX5_whole 27 = .ok (.iload_n 1, 1) := by decide +kernel
theorem dX5_whole_28 : decode cX5_whole 28 = .ok (.ireturn, 1) := by decide +kernel
set_option maxRecDepth 20000 in
theorem ggX5_haveAll_X5_freePiece : GoodIn wsX5_haveAll wsX5_freePiece := goodIn_r _ [5, 6, 7, 8, 9, 10, 11] (by decide +kernel) (by decide +kernel)
set_option maxRecDepth 20000 in
theorem gX5_haveAll_X5_freePiece : GoodIn wsX5_haveAll (wsV RX5 54 RX5 yX5_freePiece wsX5_freePiece) := goodIn_app (goodIn_of _ (by decide +kernel)) ggX5_haveAll_X5_freePiece
theorem dX5_haveAll_0 : decode cX5_haveAll 0 = .ok (.iconst 0, 1) := by decide +kernel
theorem dX5_haveAll_1 : decode cX5_haveAll 1 = .ok (.istore_n 3, 1) := by decide +kernel
theorem dX5_haveAll_2 : decode cX5_haveAll 2 = .ok (.iconst 0, 1) := by decide +kernel
theorem dX5_haveAll_3 : decode cX5_haveAll 3 = .ok (.istore 4, 2) := by decide +kernel
theorem dX5_haveAll_5 : decode cX5_haveAll 5 = .ok (.iload 4, 2) := by decide +kernel
theorem dX5_haveAll_7 : decode cX5_haveAll 7 = .ok (.iload_n 2, 1) := by decide +kernel
theorem dX5_haveAll_8 : decode cX5_haveAll 8 = .ok (.if_icmp .ge 34, 3) := by decide +kernel
theorem dX5_haveAll_11 : decode cX5_haveAll 11 = .ok (.aload_n 0, 1) := by decide +kernel
theorem dX5_haveAll_12 : decode cX5_haveAll 12 = .ok (.aload_n 1, 1) := by decide +kernel
theorem dX5_haveAll_13 : decode cX5_haveAll 13 = .ok (.iload 4, 2) := by decide +kernel
theorem dX5_haveAll_15 : decode cX5_haveAll 15 = .ok (.iaload, 1) := by decide +kernel
theorem dX5_haveAll_16 : decode cX5_haveAll 16 = .ok (.iload_n 3, 1) := by decide +kernel
theorem dX5_haveAll_17 : decode cX5_haveAll 17 = .ok (.invokevirtual 54, 3) := by decide +kernel
theorem dX5_haveAll_20 : decode cX5_haveAll 20 = .ok (.istore 5, 2) := by decide +kernel
theorem dX5_haveAll_22 : decode cX5_haveAll 22 = .ok (.iload 5, 2) := by decide +kernel
theorem dX5_haveAll_24 : decode cX5_haveAll 24 = .ok (.ifCond .ge 5, 3) := by decide +kernel
theorem dX5_haveAll_27 : decode cX5_haveAll 27 = .ok (.iconst 0, 1) := by decide +kernel
theorem dX5_haveAll_28 : decode cX5_haveAll 28 = .ok (.ireturn, 1) := by decide +kernel
theorem dX5_haveAll_29 : decode cX5_haveAll 29 = .ok (.iload_n 3, 1) := by decide +kernel
theorem dX5_haveAll_30 : decode cX5_haveAll 30 = .ok (.iconst 1, 1) := by decide +kernel
theorem dX5_haveAll_31 : decode cX5_haveAll 31 = .ok (.iload 5, 2) := by decide +kernel
theorem dX5_haveAll_33 : decode cX5_haveAll 33 = .ok (.ishl, 1) := by decide +kernel
theorem dX5_haveAll_34 : decode cX5_haveAll 34 = .ok (.ior, 1) := by decide +kernel
theorem dX5_haveAll_35 : decode cX5_haveAll 35 = .ok (.istore_n 3, 1) := by decide +kernel
theorem dX5_haveAll_36 : decode cX5_haveAll 36 = .ok (.iinc 4 1, 3) := by decide +kernel
theorem dX5_haveAll_39 : decode cX5_haveAll 39 = .ok (.goto (-34), 3) := by decide +kernel
theorem dX5_haveAll_42 : decode cX5_haveAll 42 = .ok (.iconst 1, 1) := by decide +kernel
theorem dX5_haveAll_43 : decode cX5_haveAll 43 = .ok (.ireturn, 1) := by decide +kernel
theorem dX5_freePiece_0 : decode cX5_freePiece 0 = .ok (.iconst 0, 1) := by decide +kernel
theorem dX5_freePiece_1 : decode cX5_freePiece 1 = .ok (.istore_n 3, 1) := by decide +kernel
theorem dX5_freePiece_2 : decode cX5_freePiece 2 = .ok (.iload_n 3, 1) := by decide +kernel
theorem dX5_freePiece_3 : decode cX5_freePiece 3 = .ok (.aload_n 0, 1) := by decide +kernel
theorem dX5_freePiece_4 : decode cX5_freePiece 4 = .ok (.getfield 21, 3) := by decide +kernel
theorem dX5_freePiece_7 : decode cX5_freePiece 7 = .ok (.if_icmp .ge 29, 3) := by decide +kernel
theorem dX5_freePiece_10 : decode cX5_freePiece 10 = .ok (.aload_n 0, 1) := by decide +kernel
theorem dX5_freePiece_11 : decode cX5_freePiece 11 = .ok (.getfield 18, 3) := by decide +kernel
theorem dX5_freePiece_14 : decode cX5_freePiece 14 = .ok (.iload_n 3, 1) := by decide +kernel
theorem dX5_freePiece_15 : decode cX5_freePiece 15 = .ok (.iaload, 1) := by decide +kernel
theorem dX5_freePiece_16 : decode cX5_freePiece 16 = .ok (.iload_n 1, 1) := by decide +kernel
theorem dX5_freePiece_17 : decode cX5_freePiece 17 = .ok (.if_icmp .ne 13, 3) := by decide +kernel
theorem dX5_freePiece_20 : decode cX5_freePiece 20 = .ok (.iload_n 2, 1) := by decide +kernel
theorem dX5_freePiece_21 : decode cX5_freePiece 21 = .ok (.iload_n 3, 1) := by decide +kernel
theorem dX5_freePiece_22 : decode cX5_freePiece 22 = .ok (.ishr, 1) := by decide +kernel
theorem dX5_freePiece_23 : decode cX5_freePiece 23 = .ok (.iconst 1, 1) := by decide +kernel
theorem dX5_freePiece_24 : decode cX5_freePiece 24 = .ok (.iand, 1) := by decide +kernel
theorem dX5_freePiece_25 : decode cX5_freePiece 25 = .ok (.ifCond .ne 5, 3) := by decide +kernel
theorem dX5_freePiece_28 : decode cX5_freePiece 28 = .ok (.iload_n 3, 1) := by decide +kernel
theorem dX5_freePiece_29 : decode cX5_freePiece 29 = .ok (.ireturn, 1) := by decide +kernel
theorem dX5_freePiece_30 : decode cX5_freePiece 30 = .ok (.iinc 3 1, 3) := by decide +kernel
theorem dX5_freePiece_33 : decode cX5_freePiece 33 = .ok (.goto (-31), 3) := by decide +kernel
theorem dX5_freePiece_36 : decode cX5_freePiece 36 = .ok (.iconst (-1), 1) := by decide +kernel
theorem dX5_freePiece_37 : decode cX5_freePiece 37 = .ok (.ireturn, 1) := by decide +kernel
theorem dX6_init_0 : decode cX6_init 0 = .ok (.aload_n 0, 1) := by decide +kernel
theorem dX6_init_1 : decode cX6_init 1 = .ok (.invokespecial 3, 3) := by decide +kernel
theorem dX6_init_4 : decode cX6_init 4 = .ok (.aload_n 0, 1) := by decide +kernel
theorem dX6_init_5 : decode cX6_init 5 = .ok (.sipush 2048, 3) := by decide +kernel
theorem dX6_init_8 : decode cX6_init 8 = .ok (.newarray .int, 2) := by decide +kernel
theorem dX6_init_10 : decode cX6_init 10 = .ok (.putfield 9, 3) := by decide +kernel
theorem dX6_init_13 : decode cX6_init 13 = .ok (.aload_n 0, 1) := by decide +kernel
theorem dX6_init_14 : decode cX6_init 14 = .ok (.sipush 2048, 3) := by decide +kernel
theorem dX6_init_17 : decode cX6_init 17 = .ok (.newarray .int, 2) := by decide +kernel
theorem dX6_init_19 : decode cX6_init 19 = .ok (.putfield 15, 3) := by decide +kernel
theorem dX6_init_22 : decode cX6_init 22 = .ok (.aload_n 0, 1) := by decide +kernel
theorem dX6_init_23 : decode cX6_init 23 = .ok (.sipush 218, 3) := by decide +kernel
theorem dX6_init_26 : decode cX6_init 26 = .ok (.newarray .int, 2) := by decide +kernel
theorem dX6_init_28 : decode cX6_init 28 = .ok (.putfield 18, 3) := by decide +kernel
theorem dX6_init_31 : decode cX6_init 31 = .ok (.aload_n 0, 1) := by decide +kernel
theorem dX6_init_32 : decode cX6_init 32 = .ok (.sipush 2048, 3) := by decide +kernel
theorem dX6_init_35 : decode cX6_init 35 = .ok (.newarray .int, 2) := by decide +kernel
theorem dX6_init_37 : decode cX6_init 37 = .ok (.putfield 21, 3) := by decide +kernel
theorem dX6_init_40 : decode cX6_init 40 = .ok (.aload_n 0, 1) := by decide +kernel
theorem dX6_init_41 : decode cX6_init 41 = .ok (.bipush 61, 2) := by decide +kernel
theorem dX6_init_43 : decode cX6_init 43 = .ok (.newarray .int, 2) := by decide +kernel
theorem dX6_init_45 : decode cX6_init 45 = .ok (.putfield 24, 3) := by decide +kernel
theorem dX6_init_48 : decode cX6_init 48 = .ok (.return_, 1) := by decide +kernel
set_option maxRecDepth 20000 in
theorem ggX6_load_X6_sortGroups : GoodIn wsX6_load wsX6_sortGroups := goodIn_r _ [11, 6, 12, 4, 13, 18, 19, 20, 21, 22, 23, 24, 25] (by decide +kernel) (by decide +kernel)
set_option maxRecDepth 20000 in
theorem gX6_load_X6_sortGroups : GoodIn wsX6_load (wsV RX6 45 RX6 yX6_sortGroups wsX6_sortGroups) := goodIn_app (goodIn_of _ (by decide +kernel)) ggX6_load_X6_sortGroups
theorem dX6_load_0 : decode cX6_load 0 = .ok (.aload_n 0, 1) := by decide +kernel
theorem dX6_load_1 : decode cX6_load 1 = .ok (.aload_n 1, 1) := by decide +kernel
theorem dX6_load_2 : decode cX6_load 2 = .ok (.getfield 27, 3) := by decide +kernel
theorem dX6_load_5 : decode cX6_load 5 = .ok (.putfield 33, 3) := by decide +kernel
theorem dX6_load_8 : decode cX6_load 8 = .ok (.aload_n 0, 1) := by decide +kernel
theorem dX6_load_9 : decode cX6_load 9 = .ok (.iconst 0, 1) := by decide +kernel
theorem dX6_load_10 : decode cX6_load 10 = .ok (.putfield 36, 3) := by decide +kernel
theorem dX6_load_13 : decode cX6_load 13 = .ok (.aload_n 0, 1) := by decide +kernel
theorem dX6_load_14 : decode cX6_load 14 = .ok (.getfield 9, 3) := by decide +kernel
theorem dX6_load_17 : decode cX6_load 17 = .ok (.iconst 0, 1) := by decide +kernel
theorem dX6_load_18 : decode cX6_load 18 = .ok (.iconst 0, 1) := by decide +kernel
theorem dX6_load_19 : decode cX6_load 19 = .ok (.iastore, 1) := by decide +kernel
theorem dX6_load_20 : decode cX6_load 20 = .ok (.iconst 0, 1) := by decide +kernel
theorem dX6_load_21 : decode cX6_load 21 = .ok (.istore_n 2, 1) := by decide +kernel
theorem dX6_load_22 : decode cX6_load 22 = .ok (.iload_n 2, 1) := by decide +kernel
theorem dX6_load_23 : decode cX6_load 23 = .ok (.aload_n 1, 1) := by decide +kernel
theorem dX6_load_24 : decode cX6_load 24 = .ok (.getfield 27, 3) := by decide +kernel
theorem dX6_load_27 : decode cX6_load 27 = .ok (.if_icmp .ge 51, 3) := by decide +kernel
theorem dX6_load_30 : decode cX6_load 30 = .ok (.iconst 1, 1) := by decide +kernel
theorem dX6_load_31 : decode cX6_load 31 = .ok (.iload_n 2, 1) := by decide +kernel
theorem dX6_load_32 : decode cX6_load 32 = .ok (.ishl, 1) := by decide +kernel
theorem dX6_load_33 : decode cX6_load 33 = .ok (.istore_n 3, 1) := by decide +kernel
theorem dX6_load_34 : decode cX6_load 34 = .ok (.iconst 0, 1) := by decide +kernel
theorem dX6_load_35 : decode cX6_load 35 = .ok (.istore 4, 2) := by decide +kernel
theorem dX6_load_37 : decode cX6_load 37 = .ok (.iload 4, 2) := by decide +kernel
theorem dX6_load_39 : decode cX6_load 39 = .ok (.iload_n 3, 1) := by decide +kernel
theorem dX6_load_40 : decode cX6_load 40 = .ok (.if_icmp .ge 32, 3) := by decide +kernel
theorem dX6_load_43 : decode cX6_load 43 = .ok (.aload_n 0, 1) := by decide +kernel
theorem dX6_load_44 : decode cX6_load 44 = .ok (.getfield 9, 3) := by decide +kernel
theorem dX6_load_47 : decode cX6_load 47 = .ok (.iload_n 3, 1) := by decide +kernel
theorem dX6_load_48 : decode cX6_load 48 = .ok (.iload 4, 2) := by decide +kernel
theorem dX6_load_50 : decode cX6_load 50 = .ok (.iadd, 1) := by decide +kernel
theorem dX6_load_51 : decode cX6_load 51 = .ok (.aload_n 0, 1) := by decide +kernel
theorem dX6_load_52 : decode cX6_load 52 = .ok (.getfield 9, 3) := by decide +kernel
theorem dX6_load_55 : decode cX6_load 55 = .ok (.iload 4, 2) := by decide +kernel
theorem dX6_load_57 : decode cX6_load 57 = .ok (.iaload, 1) := by decide +kernel
theorem dX6_load_58 : decode cX6_load 58 = .ok (.aload_n 1, 1) := by decide +kernel
theorem dX6_load_59 : decode cX6_load 59 = .ok (.getfield 39, 3) := by decide +kernel
theorem dX6_load_62 : decode cX6_load 62 = .ok (.iload_n 2, 1) := by decide +kernel
theorem dX6_load_63 : decode cX6_load 63 = .ok (.iaload, 1) := by decide +kernel
theorem dX6_load_64 : decode cX6_load 64 = .ok (.iadd, 1) := by decide +kernel
theorem dX6_load_65 : decode cX6_load 65 = .ok (.iastore, 1) := by decide +kernel
theorem dX6_load_66 : decode cX6_load 66 = .ok (.iinc 4 1, 3) := by decide +kernel
theorem dX6_load_69 : decode cX6_load 69 = .ok (.goto (-32), 3) := by decide +kernel
theorem dX6_load_72 : decode cX6_load 72 = .ok (.iinc 2 1, 3) := by decide +kernel
theorem dX6_load_75 : decode cX6_load 75 = .ok (.goto (-53), 3) := by decide +kernel
theorem dX6_load_78 : decode cX6_load 78 = .ok (.iconst 1, 1) := by decide +kernel
theorem dX6_load_79 : decode cX6_load 79 = .ok (.aload_n 1, 1) := by decide +kernel
theorem dX6_load_80 : decode cX6_load 80 = .ok (.getfield 27, 3) := by decide +kernel
theorem dX6_load_83 : decode cX6_load 83 = .ok (.ishl, 1) := by decide +kernel
theorem dX6_load_84 : decode cX6_load 84 = .ok (.istore_n 2, 1) := by decide +kernel
theorem dX6_load_85 : decode cX6_load 85 = .ok (.aload_n 0, 1) := by decide +kernel
theorem dX6_load_86 : decode cX6_load 86 = .ok (.aload_n 0, 1) := by decide +kernel
theorem dX6_load_87 : decode cX6_load 87 = .ok (.getfield 9, 3) := by decide +kernel
theorem dX6_load_90 : decode cX6_load 90 = .ok (.iload_n 2, 1) := by decide +kernel
theorem dX6_load_91 : decode cX6_load 91 = .ok (.iconst 1, 1) := by decide +kernel
theorem dX6_load_92 : decode cX6_load 92 = .ok (.isub, 1) := by decide +kernel
theorem dX6_load_93 : decode cX6_load 93 = .ok (.iaload, 1) := by decide +kernel
theorem dX6_load_94 : decode cX6_load 94 = .ok (.putfield 42, 3) := by decide +kernel
theorem dX6_load_97 : decode cX6_load 97 = .ok (.aload_n 0, 1) := by decide +kernel
theorem dX6_load_98 : decode cX6_load 98 = .ok (.iload_n 2, 1) := by decide +kernel
theorem dX6_load_99 : decode cX6_load 99 = .ok (.invokevirtual 45, 3) := by decide +kernel
theorem dX6_load_102 : decode cX6_load 102 = .ok (.return_, 1) := by decide +kernel
theorem dX6_sortGroups_0 : decode cX6_sortGroups 0 = .ok (.iconst 0, 1) := by decide +kernel
theorem dX6_sortGroups_1 : decode cX6_sortGroups 1 = .ok (.istore_n 2, 1) := by decide +kernel
theorem dX6_sortGroups_2 : decode cX6_sortGroups 2 = .ok (.iload_n 2, 1) := by decide +kernel
theorem dX6_sortGroups_3 : decode cX6_sortGroups 3 = .ok (.aload_n 0, 1) := by decide +kernel
theorem dX6_sortGroups_4 : decode cX6_sortGroups 4 = .ok (.getfield 42, 3) := by decide +kernel
theorem dX6_sortGroups_7 : decode cX6_sortGroups 7 = .ok (.iconst 1, 1) := by decide +kernel
theorem dX6_sortGroups_8 : decode cX6_sortGroups 8 = .ok (.iadd, 1) := by decide +kernel
theorem dX6_sortGroups_9 : decode cX6_sortGroups 9 = .ok (.if_icmp .gt 16, 3) := by decide +kernel
theorem dX6_sortGroups_12 : decode cX6_sortGroups 12 = .ok (.aload_n 0, 1) := by decide +kernel
theorem dX6_sortGroups_13 : decode cX6_sortGroups 13 = .ok (.getfield 18, 3) := by decide +kernel
theorem dX6_sortGroups_16 : decode cX6_sortGroups 16 = .ok (.iload_n 2, 1) := by decide +kernel
theorem dX6_sortGroups_17 : decode cX6_sortGroups 17 = .ok (.iconst 0, 1) := by decide +kernel
theorem dX6_sortGroups_18 : decode cX6_sortGroups 18 = .ok (.iastore, 1) := by decide +kernel
theorem dX6_sortGroups_19 : decode cX6_sortGroups 19 = .ok (.iinc 2 1, 3) := by decide +kernel
theorem dX6_sortGroups_22 : decode cX6_sortGroups 22 = .ok (.goto (-20), 3) := by decide +kernel
theorem dX6_sortGroups_25 : decode cX6_sortGroups 25 = .ok (.iconst 0, 1) := by decide +kernel
theorem dX6_sortGroups_26 : decode cX6_sortGroups 26 = .ok (.istore_n 2, 1) := by decide +kernel
theorem dX6_sortGroups_27 : decode cX6_sortGroups 27 = .ok (.iload_n 2, 1) := by decide +kernel
theorem dX6_sortGroups_28 : decode cX6_sortGroups 28 = .ok (.iload_n 1, 1) := by decide +kernel
theorem dX6_sortGroups_29 : decode cX6_sortGroups 29 = .ok (.if_icmp .ge 24, 3) := by decide +kernel
theorem dX6_sortGroups_32 : decode cX6_sortGroups 32 = .ok (.aload_n 0, 1) := by decide +kernel
theorem dX6_sortGroups_33 : decode cX6_sortGroups 33 = .ok (.getfield 18, 3) := by decide +kernel
theorem dX6_sortGroups_36 : decode cX6_sortGroups 36 = .ok (.aload_n 0, 1) := by decide +kernel
theorem dX6_sortGroups_37 : decode cX6_sortGroups 37 = .ok (.getfield 9, 3) := by decide +kernel
theorem dX6_sortGroups_40 : decode cX6_sortGroups 40 = .ok (.iload_n 2, 1) := by decide +kernel
theorem dX6_sortGroups_41 : decode cX6_sortGroups 41 = .ok (.iaload, 1) := by decide +kernel
theorem dX6_sortGroups_42 : decode cX6_sortGroups 42 = .ok (.dup2, 1) := by decide +kernel
theorem dX6_sortGroups_43 : decode cX6_sortGroups 43 = .ok (.iaload, 1) := by decide +kernel
theorem dX6_sortGroups_44 : decode cX6_sortGroups 44 = .ok (.iconst 1, 1) := by decide +kernel
theorem dX6_sortGroups_45 : decode cX6_sortGroups 45 = .ok (.iadd, 1) := by decide +kernel
theorem dX6_sortGroups_46 : decode cX6_sortGroups 46 = .ok (.iastore, 1) := by decide +kernel
theorem dX6_sortGroups_47 : decode cX6_sortGroups 47 = .ok (.iinc 2 1, 3) := by decide +kernel
theorem dX6_sortGroups_50 : decode cX6_sortGroups 50 = .ok (.goto (-23), 3) := by decide +kernel
theorem dX6_sortGroups_53 : decode cX6_sortGroups 53 = .ok (.iconst 1, 1) := by decide +kernel
theorem dX6_sortGroups_54 : decode cX6_sortGroups 54 = .ok (.istore_n 2, 1) := by decide +kernel
theorem dX6_sortGroups_55 : decode cX6_sortGroups 55 = .ok (.iload_n 2, 1) := by decide +kernel
theorem dX6_sortGroups_56 : decode cX6_sortGroups 56 = .ok (.aload_n 0, 1) := by decide +kernel
theorem dX6_sortGroups_57 : decode cX6_sortGroups 57 = .ok (.getfield 42, 3) := by decide +kernel
theorem dX6_sortGroups_60 : decode cX6_sortGroups 60 = .ok (.iconst 1, 1) := by decide +kernel
theorem dX6_sortGroups_61 : decode cX6_sortGroups 61 = .ok (.iadd, 1) := by decide +kernel
theorem dX6_sortGroups_62 : decode cX6_sortGroups 62 = .ok (.if_icmp .gt 26, 3) := by decide +kernel
theorem dX6_sortGroups_65 : decode cX6_sortGroups 65 = .ok (.aload_n 0, 1) := by decide +kernel
theorem dX6_sortGroups_66 : decode cX6_sortGroups 66 = .ok (.getfield 18, 3) := by decide +kernel
theorem dX6_sortGroups_69 : decode cX6_sortGroups 69 = .ok (.iload_n 2, 1) := by decide +kernel
theorem dX6_sortGroups_70 : decode cX6_sortGroups 70 = .ok (.dup2, 1) := by decide +kernel
theorem dX6_sortGroups_71 : decode cX6_sortGroups 71 = .ok (.iaload, 1) := by decide +kernel
theorem dX6_sortGroups_72 : decode cX6_sortGroups 72 = .ok (.aload_n 0, 1) := by decide +kernel
theorem dX6_sortGroups_73 : decode cX6_sortGroups 73 = .ok (.getfield 18, 3) := by decide +kernel
theorem dX6_sortGroups_76 : decode cX6_sortGroups 76 = .ok (.iload_n 2, 1) := by decide +kernel
theorem dX6_sortGroups_77 : decode cX6_sortGroups 77 = .ok (.iconst 1, 1) := by decide +kernel
theorem dX6_sortGroups_78 : decode cX6_sortGroups 78 = .ok (.isub, 1) := by decide +kernel
theorem dX6_sortGroups_79 : decode cX6_sortGroups 79 = .ok (.iaload, 1) := by decide +kernel
theorem dX6_sortGroups_80 : decode cX6_sortGroups 80 = .ok (.iadd, 1) := by decide +kernel
theorem dX6_sortGroups_81 : decode cX6_sortGroups 81 = .ok (.iastore, 1) := by decide +kernel
theorem dX6_sortGroups_82 : decode cX6_sortGroups 82 = .ok (.iinc 2 1, 3) := by decide +kernel
theorem dX6_sortGroups_85 : decode cX6_sortGroups 85 = .ok (.goto (-30), 3) := by decide +kernel
theorem dX6_sortGroups_88 : decode cX6_sortGroups 88 = .ok (.iload_n 1, 1) := by decide +kernel
theorem dX6_sortGroups_89 : decode cX6_sortGroups 89 = .ok (.iconst 1, 1) := by decide +kernel
theorem dX6_sortGroups_90 : decode cX6_sortGroups 90 = .ok (.isub, 1) := by decide +kernel
theorem dX6_sortGroups_91 : decode cX6_sortGroups 91 = .ok (.istore_n 2, 1) := by decide +kernel
theorem dX6_sortGroups_92 : decode cX6_sortGroups 92 = .ok (.iload_n 2, 1) := by decide +kernel
theorem dX6_sortGroups_93 : decode cX6_sortGroups 93 = .ok (.ifCond .lt 33, 3) := by decide +kernel
theorem dX6_sortGroups_96 : decode cX6_sortGroups 96 = .ok (.aload_n 0, 1) := by decide +kernel
theorem dX6_sortGroups_97 : decode cX6_sortGroups 97 = .ok (.getfield 18, 3) := by decide +kernel
theorem dX6_sortGroups_100 : decode cX6_sortGroups 100 = .ok (.aload_n 0, 1) := by decide +kernel
theorem dX6_sortGroups_101 : decode cX6_sortGroups 101 = .ok (.getfield 9, 3) := by decide +kernel
theorem dX6_sortGroups_104 : decode cX6_sortGroups 104 = .ok (.iload_n 2, 1) := by decide +kernel
theorem dX6_sortGroups_105 : decode cX6_sortGroups 105 = .ok (.iaload, 1) := by decide +kernel
theorem dX6_sortGroups_106 : decode cX6_sortGroups 106 = .ok (.dup2, 1) := by decide +kernel
theorem dX6_sortGroups_107 : decode cX6_sortGroups 107 = .ok (.iaload, 1) := by decide +kernel
theorem dX6_sortGroups_108 : decode cX6_sortGroups 108 = .ok (.iconst 1, 1) := by decide +kernel
theorem dX6_sortGroups_109 : decode cX6_sortGroups 109 = .ok (.isub, 1) := by decide +kernel
theorem dX6_sortGroups_110 : decode cX6_sortGroups 110 = .ok (.dup_x2, 1) := by decide +kernel
theorem dX6_sortGroups_111 : decode cX6_sortGroups 111 = .ok (.iastore, 1) := by decide +kernel
theorem dX6_sortGroups_112 : decode cX6_sortGroups 112 = .ok (.istore_n 3, 1) := by decide +kernel
theorem dX6_sortGroups_113 : decode cX6_sortGroups 113 = .ok (.aload_n 0, 1) := by decide +kernel
theorem dX6_sortGroups_114 : decode cX6_sortGroups 114 = .ok (.getfield 15, 3) := by decide +kernel
theorem dX6_sortGroups_117 : decode cX6_sortGroups 117 = .ok (.iload_n 3, 1) := by decide +kernel
theorem dX6_sortGroups_118 : decode cX6_sortGroups 118 = .ok (.iload_n 2, 1) := by decide +kernel
theorem dX6_sortGroups_119 : decode cX6_sortGroups 119 = .ok (.iastore, 1) := by decide +kernel
theorem dX6_sortGroups_120 : decode cX6_sortGroups 120 = .ok (.iinc 2 (-1), 3) := by decide +kernel
theorem dX6_sortGroups_123 : decode cX6_sortGroups 123 = .ok (.goto (-31), 3) := by decide +kernel
theorem dX6_sortGroups_126 : decode cX6_sortGroups 126 = .ok (.return_, 1) := by decide +kernel
set_option maxRecDepth 20000 in
theorem ggX6_from_X10_within : GoodIn wsX6_from wsX10_within := goodIn_r _ [5] (by decide +kernel) (by decide +kernel)
set_option maxRecDepth 20000 in
theorem gX6_from_X10_within_n49 : GoodIn wsX6_from (wsX10_within) := ggX6_from_X10_within
theorem dX6_from_0 : decode cX6_from 0 = .ok (.iload_n 1, 1) := by decide +kernel
theorem dX6_from_1 : decode cX6_from 1 = .ok (.iconst 0, 1) := by decide +kernel
theorem dX6_from_2 : decode cX6_from 2 = .ok (.aload_n 0, 1) := by decide +kernel
theorem dX6_from_3 : decode cX6_from 3 = .ok (.getfield 42, 3) := by decide +kernel
theorem dX6_from_6 : decode cX6_from 6 = .ok (.invokestatic 49, 3) := by decide +kernel
theorem dX6_from_9 : decode cX6_from 9 = .ok (.ifCond .eq 12, 3) := by decide +kernel
theorem dX6_from_12 : decode cX6_from 12 = .ok (.aload_n 0, 1) := by decide +kernel
theorem dX6_from_13 : decode cX6_from 13 = .ok (.getfield 18, 3) := by decide +kernel
theorem dX6_from_16 : decode cX6_from 16 = .ok (.iload_n 1, 1) := by decide +kernel
theorem dX6_from_17 : decode cX6_from 17 = .ok (.iaload, 1) := by decide +kernel
theorem dX6_from_18 : decode cX6_from 18 = .ok (.goto 4, 3) := by decide +kernel
theorem dX6_from_21 : decode cX6_from 21 = .ok (.iconst 0, 1) := by decide +kernel
theorem dX6_from_22 : decode cX6_from 22 = .ok (.ireturn, 1) := by decide +kernel
set_option maxRecDepth 20000 in
theorem ggX6_to_X10_within : GoodIn wsX6_to wsX10_within := goodIn_r _ [5] (by decide +kernel) (by decide +kernel)
set_option maxRecDepth 20000 in
theorem gX6_to_X10_within_n49 : GoodIn wsX6_to (wsX10_within) := ggX6_to_X10_within
theorem dX6_to_0 : decode cX6_to 0 = .ok (.iload_n 1, 1) := by decide +kernel
theorem dX6_to_1 : decode cX6_to 1 = .ok (.iconst 0, 1) := by decide +kernel
theorem dX6_to_2 : decode cX6_to 2 = .ok (.aload_n 0, 1) := by decide +kernel
theorem dX6_to_3 : decode cX6_to 3 = .ok (.getfield 42, 3) := by decide +kernel
theorem dX6_to_6 : decode cX6_to 6 = .ok (.invokestatic 49, 3) := by decide +kernel
theorem dX6_to_9 : decode cX6_to 9 = .ok (.ifCond .eq 14, 3) := by decide +kernel
theorem dX6_to_12 : decode cX6_to 12 = .ok (.aload_n 0, 1) := by decide +kernel
theorem dX6_to_13 : decode cX6_to 13 = .ok (.getfield 18, 3) := by decide +kernel
theorem dX6_to_16 : decode cX6_to 16 = .ok (.iload_n 1, 1) := by decide +kernel
theorem dX6_to_17 : decode cX6_to 17 = .ok (.iconst 1, 1) := by decide +kernel
theorem dX6_to_18 : decode cX6_to 18 = .ok (.iadd, 1) := by decide +kernel
theorem dX6_to_19 : decode cX6_to 19 = .ok (.iaload, 1) := by decide +kernel
theorem dX6_to_20 : decode cX6_to 20 = .ok (.goto 4, 3) := by decide +kernel
theorem dX6_to_23 : decode cX6_to 23 = .ok (.iconst 0, 1) := by decide +kernel
theorem dX6_to_24 : decode cX6_to 24 = .ok (.ireturn, 1) := by decide +kernel
set_option maxRecDepth 20000 in
theorem ggX6_daysGrowing_X6_grow : GoodIn wsX6_daysGrowing wsX6_grow := goodIn_r _ [6, 7, 1, 8, 9, 10, 5, 11, 12, 13, 14, 15, 16, 17, 18, 19, 20, 21, 22, 23, 24, 25, 26, 27, 28, 29, 30, 31, 32] (by decide +kernel) (by decide +kernel)
set_option maxRecDepth 20000 in
theorem gX6_daysGrowing_X6_grow : GoodIn wsX6_daysGrowing (wsV RX6 53 RX6 yX6_grow wsX6_grow) := goodIn_app (goodIn_of _ (by decide +kernel)) ggX6_daysGrowing_X6_grow
theorem dX6_daysGrowing_0 : decode cX6_daysGrowing 0 = .ok (.aload_n 0, 1) := by decide +kernel
theorem dX6_daysGrowing_1 : decode cX6_daysGrowing 1 = .ok (.getfield 21, 3) := by decide +kernel
theorem dX6_daysGrowing_4 : decode cX6_daysGrowing 4 = .ok (.iconst 0, 1) := by decide +kernel
theorem dX6_daysGrowing_5 : decode cX6_daysGrowing 5 = .ok (.iconst 1, 1) := by decide +kernel
theorem dX6_daysGrowing_6 : decode cX6_daysGrowing 6 = .ok (.iastore, 1) := by decide +kernel
theorem dX6_daysGrowing_7 : decode cX6_daysGrowing 7 = .ok (.iconst 1, 1) := by decide +kernel
theorem dX6_daysGrowing_8 : decode cX6_daysGrowing 8 = .ok (.istore_n 2, 1) := by decide +kernel
theorem dX6_daysGrowing_9 : decode cX6_daysGrowing 9 = .ok (.iload_n 2, 1) := by decide +kernel
theorem dX6_daysGrowing_10 : decode cX6_daysGrowing 10 = .ok (.bipush 60, 2) := by decide +kernel
theorem dX6_daysGrowing_12 : decode cX6_daysGrowing 12 = .ok (.if_icmp .gt 39, 3) := by decide +kernel
theorem dX6_daysGrowing_15 : decode cX6_daysGrowing 15 = .ok (.aload_n 1, 1) := by decide +kernel
theorem dX6_daysGrowing_16 : decode cX6_daysGrowing 16 = .ok (.iload_n 2, 1) := by decide +kernel
theorem dX6_daysGrowing_17 : decode cX6_daysGrowing 17 = .ok (.iaload, 1) := by decide +kernel
theorem dX6_daysGrowing_18 : decode cX6_daysGrowing 18 = .ok (.aload_n 1, 1) := by decide +kernel
theorem dX6_daysGrowing_19 : decode cX6_daysGrowing 19 = .ok (.iload_n 2, 1) := by decide +kernel
theorem dX6_daysGrowing_20 : decode cX6_daysGrowing 20 = .ok (.iconst 1, 1) := by decide +kernel
theorem dX6_daysGrowing_21 : decode cX6_daysGrowing 21 = .ok (.isub, 1) := by decide +kernel
theorem dX6_daysGrowing_22 : decode cX6_daysGrowing 22 = .ok (.iaload, 1) := by decide +kernel
theorem dX6_daysGrowing_23 : decode cX6_daysGrowing 23 = .ok (.if_icmp .eq 22, 3) := by decide +kernel
theorem dX6_daysGrowing_26 : decode cX6_daysGrowing 26 = .ok (.aload_n 0, 1) := by decide +kernel
theorem dX6_daysGrowing_27 : decode cX6_daysGrowing 27 = .ok (.aload_n 1, 1) := by decide +kernel
theorem dX6_daysGrowing_28 : decode cX6_daysGrowing 28 = .ok (.iload_n 2, 1) := by decide +kernel
theorem dX6_daysGrowing_29 : decode cX6_daysGrowing 29 = .ok (.iconst 1, 1) := by decide +kernel
theorem dX6_daysGrowing_30 : decode cX6_daysGrowing 30 = .ok (.isub, 1) := by decide +kernel
theorem dX6_daysGrowing_31 : decode cX6_daysGrowing 31 = .ok (.iaload, 1) := by decide +kernel
theorem dX6_daysGrowing_32 : decode cX6_daysGrowing 32 = .ok (.aload_n 1, 1) := by decide +kernel
theorem dX6_daysGrowing_33 : decode cX6_daysGrowing 33 = .ok (.iload_n 2, 1) := by decide +kernel
theorem dX6_daysGrowing_34 : decode cX6_daysGrowing 34 = .ok (.iaload, 1) := by decide +kernel
theorem dX6_daysGrowing_35 : decode cX6_daysGrowing 35 = .ok (.invokevirtual 53, 3) := by decide +kernel
theorem dX6_daysGrowing_38 : decode cX6_daysGrowing 38 = .ok (.ifCond .ne 7, 3) := by decide +kernel
theorem dX6_daysGrowing_41 : decode cX6_daysGrowing 41 = .ok (.iload_n 2, 1) := by decide +kernel
theorem dX6_daysGrowing_42 : decode cX6_daysGrowing 42 = .ok (.iconst 1, 1) := by decide +kernel
theorem dX6_daysGrowing_43 : decode cX6_daysGrowing 43 = .ok (.isub, 1) := by decide +kernel
theorem dX6_daysGrowing_44 : decode cX6_daysGrowing 44 = .ok (.ireturn, 1) := by decide +kernel
theorem dX6_daysGrowing_45 : decode cX6_daysGrowing 45 = .ok (.iinc 2 1, 3) := by decide +kernel
theorem dX6_daysGrowing_48 : decode cX6_daysGrowing 48 = .ok (.goto (-39), 3) := by decide +kernel
theorem dX6_daysGrowing_51 : decode cX6_daysGrowing 51 = .ok (.bipush 60, 2) := by decide +kernel
theorem dX6_daysGrowing_53 : decode cX6_daysGrowing 53 = .ok (.ireturn, 1) := by decide +kernel
set_option maxRecDepth 20000 in
theorem ggX6_grow_X6_from : GoodIn wsX6_grow wsX6_from := goodIn_r _ [7, 8, 9, 10, 11, 12, 21, 22, 23, 24, 25, 26, 27, 28] (by decide +kernel) (by decide +kernel)
set_option maxRecDepth 20000 in
theorem gX6_grow_X6_from : GoodIn wsX6_grow (wsV RX6 57 RX6 yX6_from wsX6_from) := goodIn_app (goodIn_of _ (by decide +kernel)) ggX6_grow_X6_from
set_option maxRecDepth 20000 in
theorem ggX6_grow_X6_to : GoodIn wsX6_grow wsX6_to := goodIn_r _ [16, 8, 9, 10, 11, 12, 21, 22, 23, 24, 25, 26, 27, 28] (by decide +kernel) (by decide +kernel)
set_option maxRecDepth 20000 in
theorem gX6_grow_X6_to : GoodIn wsX6_grow (wsV RX6 61 RX6 yX6_to wsX6_to) := goodIn_app (goodIn_of _ (by decide +kernel)) ggX6_grow_X6_to
set_option maxRecDepth 20000 in
theorem ggX6_grow_X6_holdsReached : GoodIn wsX6_grow wsX6_holdsReached := goodIn_r _ [20, 1, 2, 13, 14, 15, 6, 16, 8, 9, 10, 11, 12, 3, 4, 5, 7, 21, 22, 23, 24, 25, 26, 27, 28] (by decide +kernel) (by decide +kernel)
set_option maxRecDepth 20000 in
theorem gX6_grow_X6_holdsReached : GoodIn wsX6_grow (wsV RX6 64 RX6 yX6_holdsReached wsX6_holdsReached) := goodIn_app (goodIn_of _ (by decide +kernel)) ggX6_grow_X6_holdsReached
theorem dX6_grow_0 : decode cX6_grow 0 = .ok (.iconst 0, 1) := by decide +kernel
theorem dX6_grow_1 : decode cX6_grow 1 = .ok (.istore_n 3, 1) := by decide +kernel
theorem dX6_grow_2 : decode cX6_grow 2 = .ok (.aload_n 0, 1) := by decide +kernel
theorem dX6_grow_3 : decode cX6_grow 3 = .ok (.iload_n 2, 1) := by decide +kernel
theorem dX6_grow_4 : decode cX6_grow 4 = .ok (.invokevirtual 57, 3) := by decide +kernel
theorem dX6_grow_7 : decode cX6_grow 7 = .ok (.istore 4, 2) := by decide +kernel
theorem dX6_grow_9 : decode cX6_grow 9 = .ok (.iload 4, 2) := by decide +kernel
theorem dX6_grow_11 : decode cX6_grow 11 = .ok (.aload_n 0, 1) := by decide +kernel
theorem dX6_grow_12 : decode cX6_grow 12 = .ok (.iload_n 2, 1) := by decide +kernel
theorem dX6_grow_13 : decode cX6_grow 13 = .ok (.invokevirtual 61, 3) := by decide +kernel
theorem dX6_grow_16 : decode cX6_grow 16 = .ok (.if_icmp .ge 61, 3) := by decide +kernel
theorem dX6_grow_19 : decode cX6_grow 19 = .ok (.aload_n 0, 1) := by decide +kernel
theorem dX6_grow_20 : decode cX6_grow 20 = .ok (.getfield 15, 3) := by decide +kernel
theorem dX6_grow_23 : decode cX6_grow 23 = .ok (.iload 4, 2) := by decide +kernel
theorem dX6_grow_25 : decode cX6_grow 25 = .ok (.iaload, 1) := by decide +kernel
theorem dX6_grow_26 : decode cX6_grow 26 = .ok (.istore 5, 2) := by decide +kernel
theorem dX6_grow_28 : decode cX6_grow 28 = .ok (.aload_n 0, 1) := by decide +kernel
theorem dX6_grow_29 : decode cX6_grow 29 = .ok (.getfield 21, 3) := by decide +kernel
theorem dX6_grow_32 : decode cX6_grow 32 = .ok (.iload 5, 2) := by decide +kernel
theorem dX6_grow_34 : decode cX6_grow 34 = .ok (.aload_n 0, 1) := by decide +kernel
theorem dX6_grow_35 : decode cX6_grow 35 = .ok (.iload 5, 2) := by decide +kernel
theorem dX6_grow_37 : decode cX6_grow 37 = .ok (.iload_n 1, 1) := by decide +kernel
theorem dX6_grow_38 : decode cX6_grow 38 = .ok (.invokevirtual 64, 3) := by decide +kernel
theorem dX6_grow_41 : decode cX6_grow 41 = .ok (.ifCond .eq 7, 3) := by decide +kernel
theorem dX6_grow_44 : decode cX6_grow 44 = .ok (.iconst 1, 1) := by decide +kernel
theorem dX6_grow_45 : decode cX6_grow 45 = .ok (.goto 4, 3) := by decide +kernel
theorem dX6_grow_48 : decode cX6_grow 48 = .ok (.iconst 0, 1) := by decide +kernel
theorem dX6_grow_49 : decode cX6_grow 49 = .ok (.iastore, 1) := by decide +kernel
theorem dX6_grow_50 : decode cX6_grow 50 = .ok (.iload_n 3, 1) := by decide +kernel
theorem dX6_grow_51 : decode cX6_grow 51 = .ok (.ifCond .ne 14, 3) := by decide +kernel
theorem dX6_grow_54 : decode cX6_grow 54 = .ok (.aload_n 0, 1) := by decide +kernel
theorem dX6_grow_55 : decode cX6_grow 55 = .ok (.getfield 21, 3) := by decide +kernel
theorem dX6_grow_58 : decode cX6_grow 58 = .ok (.iload 5, 2) := by decide +kernel
theorem dX6_grow_60 : decode cX6_grow 60 = .ok (.iaload, 1) := by decide +kernel
theorem dX6_grow_61 : decode cX6_grow 61 = .ok (.iconst 1, 1) := by decide +kernel
theorem dX6_grow_62 : decode cX6_grow 62 = .ok (.if_icmp .ne 7, 3) := by decide +kernel
theorem dX6_grow_65 : decode cX6_grow 65 = .ok (.iconst 1, 1) := by decide +kernel
theorem dX6_grow_66 : decode cX6_grow 66 = .ok (.goto 4, 3) := by decide +kernel
theorem dX6_grow_69 : decode cX6_grow 69 = .ok (.iconst 0, 1) := by decide +kernel
theorem dX6_grow_70 : decode cX6_grow 70 = .ok (.istore_n 3, 1) := by decide +kernel
theorem dX6_grow_71 : decode cX6_grow 71 = .ok (.iinc 4 1, 3) := by decide +kernel
theorem dX6_grow_74 : decode cX6_grow 74 = .ok (.goto (-65), 3) := by decide +kernel
theorem dX6_grow_77 : decode cX6_grow 77 = .ok (.iload_n 3, 1) := by decide +kernel
theorem dX6_grow_78 : decode cX6_grow 78 = .ok (.ireturn, 1) := by decide +kernel
set_option maxRecDepth 20000 in
theorem ggX6_holdsReached_X6_to : GoodIn wsX6_holdsReached wsX6_to := goodIn_r _ [7, 8, 9, 10, 11, 12, 17, 18, 19, 20, 21, 22, 23, 24] (by decide +kernel) (by decide +kernel)
set_option maxRecDepth 20000 in
theorem gX6_holdsReached_X6_to : GoodIn wsX6_holdsReached (wsV RX6 61 RX6 yX6_to wsX6_to) := goodIn_app (goodIn_of _ (by decide +kernel)) ggX6_holdsReached_X6_to
set_option maxRecDepth 20000 in
theorem ggX6_holdsReached_X6_from : GoodIn wsX6_holdsReached wsX6_from := goodIn_r _ [16, 8, 9, 10, 11, 12, 17, 18, 19, 20, 21, 22, 23, 24] (by decide +kernel) (by decide +kernel)
set_option maxRecDepth 20000 in
theorem gX6_holdsReached_X6_from : GoodIn wsX6_holdsReached (wsV RX6 57 RX6 yX6_from wsX6_from) := goodIn_app (goodIn_of _ (by decide +kernel)) ggX6_holdsReached_X6_from
theorem dX6_holdsReached_0 : decode cX6_holdsReached 0 = .ok (.aload_n 0, 1) := by decide +kernel
theorem dX6_holdsReached_1 : decode cX6_holdsReached 1 = .ok (.iload_n 2, 1) := by decide +kernel
theorem dX6_holdsReached_2 : decode cX6_holdsReached 2 = .ok (.invokevirtual 61, 3) := by decide +kernel
theorem dX6_holdsReached_5 : decode cX6_holdsReached 5 = .ok (.istore_n 3, 1) := by decide +kernel
theorem dX6_holdsReached_6 : decode cX6_holdsReached 6 = .ok (.aload_n 0, 1) := by decide +kernel
theorem dX6_holdsReached_7 : decode cX6_holdsReached 7 = .ok (.iload_n 2, 1) := by decide +kernel
theorem dX6_holdsReached_8 : decode cX6_holdsReached 8 = .ok (.invokevirtual 57, 3) := by decide +kernel
theorem dX6_holdsReached_11 : decode cX6_holdsReached 11 = .ok (.istore 4, 2) := by decide +kernel
theorem dX6_holdsReached_13 : decode cX6_holdsReached 13 = .ok (.iload 4, 2) := by decide +kernel
theorem dX6_holdsReached_15 : decode cX6_holdsReached 15 = .ok (.iload_n 3, 1) := by decide +kernel
theorem dX6_holdsReached_16 : decode cX6_holdsReached 16 = .ok (.if_icmp .ge 41, 3) := by decide +kernel
theorem dX6_holdsReached_19 : decode cX6_holdsReached 19 = .ok (.aload_n 0, 1) := by decide +kernel
theorem dX6_holdsReached_20 : decode cX6_holdsReached 20 = .ok (.getfield 15, 3) := by decide +kernel
theorem dX6_holdsReached_23 : decode cX6_holdsReached 23 = .ok (.iload 4, 2) := by decide +kernel
theorem dX6_holdsReached_25 : decode cX6_holdsReached 25 = .ok (.iaload, 1) := by decide +kernel
theorem dX6_holdsReached_26 : decode cX6_holdsReached 26 = .ok (.iload_n 1, 1) := by decide +kernel
theorem dX6_holdsReached_27 : decode cX6_holdsReached 27 = .ok (.iconst (-1), 1) := by decide +kernel
theorem dX6_holdsReached_28 : decode cX6_holdsReached 28 = .ok (.ixor, 1) := by decide +kernel
theorem dX6_holdsReached_29 : decode cX6_holdsReached 29 = .ok (.iand, 1) := by decide +kernel
theorem dX6_holdsReached_30 : decode cX6_holdsReached 30 = .ok (.ifCond .ne 21, 3) := by decide +kernel
theorem dX6_holdsReached_33 : decode cX6_holdsReached 33 = .ok (.aload_n 0, 1) := by decide +kernel
theorem dX6_holdsReached_34 : decode cX6_holdsReached 34 = .ok (.getfield 21, 3) := by decide +kernel
theorem dX6_holdsReached_37 : decode cX6_holdsReached 37 = .ok (.aload_n 0, 1) := by decide +kernel
theorem dX6_holdsReached_38 : decode cX6_holdsReached 38 = .ok (.getfield 15, 3) := by decide +kernel
theorem dX6_holdsReached_41 : decode cX6_holdsReached 41 = .ok (.iload 4, 2) := by decide +kernel
theorem dX6_holdsReached_43 : decode cX6_holdsReached 43 = .ok (.iaload, 1) := by decide +kernel
theorem dX6_holdsReached_44 : decode cX6_holdsReached 44 = .ok (.iaload, 1) := by decide +kernel
theorem dX6_holdsReached_45 : decode cX6_holdsReached 45 = .ok (.iconst 1, 1) := by decide +kernel
theorem dX6_holdsReached_46 : decode cX6_holdsReached 46 = .ok (.if_icmp .ne 5, 3) := by decide +kernel
theorem dX6_holdsReached_49 : decode cX6_holdsReached 49 = .ok (.iconst 1, 1) := by decide +kernel
theorem dX6_holdsReached_50 : decode cX6_holdsReached 50 = .ok (.ireturn, 1) := by decide +kernel
theorem dX6_holdsReached_51 : decode cX6_holdsReached 51 = .ok (.iinc 4 1, 3) := by decide +kernel
theorem dX6_holdsReached_54 : decode cX6_holdsReached 54 = .ok (.goto (-41), 3) := by decide +kernel
theorem dX6_holdsReached_57 : decode cX6_holdsReached 57 = .ok (.iconst 0, 1) := by decide +kernel
theorem dX6_holdsReached_58 : decode cX6_holdsReached 58 = .ok (.ireturn, 1) := by decide +kernel
set_option maxRecDepth 20000 in
theorem ggX6_daysApart_X6_paysApart : GoodIn wsX6_daysApart wsX6_paysApart := goodIn_r _ [5, 6, 7, 8, 9, 10, 4, 11, 12, 13, 14, 15, 16, 17, 18, 19, 20, 21, 22, 23, 24, 25, 26, 27] (by decide +kernel) (by decide +kernel)
set_option maxRecDepth 20000 in
theorem gX6_daysApart_X6_paysApart : GoodIn wsX6_daysApart (wsV RX6 67 RX6 yX6_paysApart wsX6_paysApart) := goodIn_app (goodIn_of _ (by decide +kernel)) ggX6_daysApart_X6_paysApart
theorem dX6_daysApart_0 : decode cX6_daysApart 0 = .ok (.iconst 0, 1) := by decide +kernel
theorem dX6_daysApart_1 : decode cX6_daysApart 1 = .ok (.istore_n 3, 1) := by decide +kernel
theorem dX6_daysApart_2 : decode cX6_daysApart 2 = .ok (.iload_n 3, 1) := by decide +kernel
theorem dX6_daysApart_3 : decode cX6_daysApart 3 = .ok (.bipush 60, 2) := by decide +kernel
theorem dX6_daysApart_5 : decode cX6_daysApart 5 = .ok (.if_icmp .ge 26, 3) := by decide +kernel
theorem dX6_daysApart_8 : decode cX6_daysApart 8 = .ok (.aload_n 0, 1) := by decide +kernel
theorem dX6_daysApart_9 : decode cX6_daysApart 9 = .ok (.aload_n 1, 1) := by decide +kernel
theorem dX6_daysApart_10 : decode cX6_daysApart 10 = .ok (.iload_n 3, 1) := by decide +kernel
theorem dX6_daysApart_11 : decode cX6_daysApart 11 = .ok (.iconst 1, 1) := by decide +kernel
theorem dX6_daysApart_12 : decode cX6_daysApart 12 = .ok (.iadd, 1) := by decide +kernel
theorem dX6_daysApart_13 : decode cX6_daysApart 13 = .ok (.iaload, 1) := by decide +kernel
theorem dX6_daysApart_14 : decode cX6_daysApart 14 = .ok (.iload_n 2, 1) := by decide +kernel
theorem dX6_daysApart_15 : decode cX6_daysApart 15 = .ok (.iload_n 3, 1) := by decide +kernel
theorem dX6_daysApart_16 : decode cX6_daysApart 16 = .ok (.iconst 1, 1) := by decide +kernel
theorem dX6_daysApart_17 : decode cX6_daysApart 17 = .ok (.iadd, 1) := by decide +kernel
theorem dX6_daysApart_18 : decode cX6_daysApart 18 = .ok (.imul, 1) := by decide +kernel
theorem dX6_daysApart_19 : decode cX6_daysApart 19 = .ok (.invokevirtual 67, 3) := by decide +kernel
theorem dX6_daysApart_22 : decode cX6_daysApart 22 = .ok (.ifCond .eq 9, 3) := by decide +kernel
theorem dX6_daysApart_25 : decode cX6_daysApart 25 = .ok (.iinc 3 1, 3) := by decide +kernel
theorem dX6_daysApart_28 : decode cX6_daysApart 28 = .ok (.goto (-26), 3) := by decide +kernel
theorem dX6_daysApart_31 : decode cX6_daysApart 31 = .ok (.iload_n 3, 1) := by decide +kernel
theorem dX6_daysApart_32 : decode cX6_daysApart 32 = .ok (.ireturn, 1) := by decide +kernel
set_option maxRecDepth 20000 in
theorem ggX6_paysApart_X6_to : GoodIn wsX6_paysApart wsX6_to := goodIn_r _ [7, 1, 8, 9, 10, 11, 16, 17, 18, 19, 20, 21, 22, 23] (by decide +kernel) (by decide +kernel)
set_option maxRecDepth 20000 in
theorem gX6_paysApart_X6_to : GoodIn wsX6_paysApart (wsV RX6 61 RX6 yX6_to wsX6_to) := goodIn_app (goodIn_of _ (by decide +kernel)) ggX6_paysApart_X6_to
set_option maxRecDepth 20000 in
theorem ggX6_paysApart_X6_from : GoodIn wsX6_paysApart wsX6_from := goodIn_r _ [15, 1, 8, 9, 10, 11, 16, 17, 18, 19, 20, 21, 22, 23] (by decide +kernel) (by decide +kernel)
set_option maxRecDepth 20000 in
theorem gX6_paysApart_X6_from : GoodIn wsX6_paysApart (wsV RX6 57 RX6 yX6_from wsX6_from) := goodIn_app (goodIn_of _ (by decide +kernel)) ggX6_paysApart_X6_from
theorem dX6_paysApart_0 : decode cX6_paysApart 0 = .ok (.iload_n 1, 1) := by decide +kernel
theorem dX6_paysApart_1 : decode cX6_paysApart 1 = .ok (.iload_n 2, 1) := by decide +kernel
theorem dX6_paysApart_2 : decode cX6_paysApart 2 = .ok (.iadd, 1) := by decide +kernel
theorem dX6_paysApart_3 : decode cX6_paysApart 3 = .ok (.aload_n 0, 1) := by decide +kernel
theorem dX6_paysApart_4 : decode cX6_paysApart 4 = .ok (.getfield 42, 3) := by decide +kernel
theorem dX6_paysApart_7 : decode cX6_paysApart 7 = .ok (.if_icmp .le 5, 3) := by decide +kernel
theorem dX6_paysApart_10 : decode cX6_paysApart 10 = .ok (.iconst 0, 1) := by decide +kernel
theorem dX6_paysApart_11 : decode cX6_paysApart 11 = .ok (.ireturn, 1) := by decide +kernel
theorem dX6_paysApart_12 : decode cX6_paysApart 12 = .ok (.aload_n 0, 1) := by decide +kernel
theorem dX6_paysApart_13 : decode cX6_paysApart 13 = .ok (.iload_n 2, 1) := by decide +kernel
theorem dX6_paysApart_14 : decode cX6_paysApart 14 = .ok (.invokevirtual 61, 3) := by decide +kernel
theorem dX6_paysApart_17 : decode cX6_paysApart 17 = .ok (.istore_n 3, 1) := by decide +kernel
theorem dX6_paysApart_18 : decode cX6_paysApart 18 = .ok (.aload_n 0, 1) := by decide +kernel
theorem dX6_paysApart_19 : decode cX6_paysApart 19 = .ok (.iload_n 1, 1) := by decide +kernel
theorem dX6_paysApart_20 : decode cX6_paysApart 20 = .ok (.invokevirtual 57, 3) := by decide +kernel
theorem dX6_paysApart_23 : decode cX6_paysApart 23 = .ok (.istore 4, 2) := by decide +kernel
theorem dX6_paysApart_25 : decode cX6_paysApart 25 = .ok (.iload 4, 2) := by decide +kernel
theorem dX6_paysApart_27 : decode cX6_paysApart 27 = .ok (.aload_n 0, 1) := by decide +kernel
theorem dX6_paysApart_28 : decode cX6_paysApart 28 = .ok (.iload_n 1, 1) := by decide +kernel
theorem dX6_paysApart_29 : decode cX6_paysApart 29 = .ok (.invokevirtual 61, 3) := by decide +kernel
theorem dX6_paysApart_32 : decode cX6_paysApart 32 = .ok (.if_icmp .ge 48, 3) := by decide +kernel
theorem dX6_paysApart_35 : decode cX6_paysApart 35 = .ok (.aload_n 0, 1) := by decide +kernel
theorem dX6_paysApart_36 : decode cX6_paysApart 36 = .ok (.iload_n 2, 1) := by decide +kernel
theorem dX6_paysApart_37 : decode cX6_paysApart 37 = .ok (.invokevirtual 57, 3) := by decide +kernel
theorem dX6_paysApart_40 : decode cX6_paysApart 40 = .ok (.istore 5, 2) := by decide +kernel
theorem dX6_paysApart_42 : decode cX6_paysApart 42 = .ok (.iload 5, 2) := by decide +kernel
theorem dX6_paysApart_44 : decode cX6_paysApart 44 = .ok (.iload_n 3, 1) := by decide +kernel
theorem dX6_paysApart_45 : decode cX6_paysApart 45 = .ok (.if_icmp .ge 29, 3) := by decide +kernel
theorem dX6_paysApart_48 : decode cX6_paysApart 48 = .ok (.aload_n 0, 1) := by decide +kernel
theorem dX6_paysApart_49 : decode cX6_paysApart 49 = .ok (.getfield 15, 3) := by decide +kernel
theorem dX6_paysApart_52 : decode cX6_paysApart 52 = .ok (.iload 4, 2) := by decide +kernel
theorem dX6_paysApart_54 : decode cX6_paysApart 54 = .ok (.iaload, 1) := by decide +kernel
theorem dX6_paysApart_55 : decode cX6_paysApart 55 = .ok (.aload_n 0, 1) := by decide +kernel
theorem dX6_paysApart_56 : decode cX6_paysApart 56 = .ok (.getfield 15, 3) := by decide +kernel
theorem dX6_paysApart_59 : decode cX6_paysApart 59 = .ok (.iload 5, 2) := by decide +kernel
theorem dX6_paysApart_61 : decode cX6_paysApart 61 = .ok (.iaload, 1) := by decide +kernel
theorem dX6_paysApart_62 : decode cX6_paysApart 62 = .ok (.iand, 1) := by decide +kernel
theorem dX6_paysApart_63 : decode cX6_paysApart 63 = .ok (.ifCond .ne 5, 3) := by decide +kernel
theorem dX6_paysApart_66 : decode cX6_paysApart 66 = .ok (.iconst 1, 1) := by decide +kernel
theorem dX6_paysApart_67 : decode cX6_paysApart 67 = .ok (.ireturn, 1) := by decide +kernel
theorem dX6_paysApart_68 : decode cX6_paysApart 68 = .ok (.iinc 5 1, 3) := by decide +kernel
theorem dX6_paysApart_71 : decode cX6_paysApart 71 = .ok (.goto (-29), 3) := by decide +kernel
theorem dX6_paysApart_74 : decode cX6_paysApart 74 = .ok (.iinc 4 1, 3) := by decide +kernel
theorem dX6_paysApart_77 : decode cX6_paysApart 77 = .ok (.goto (-52), 3) := by decide +kernel
theorem dX6_paysApart_80 : decode cX6_paysApart 80 = .ok (.iconst 0, 1) := by decide +kernel
theorem dX6_paysApart_81 : decode cX6_paysApart 81 = .ok (.ireturn, 1) := by decide +kernel
set_option maxRecDepth 20000 in
theorem ggX6_lookBack_X6_from : GoodIn wsX6_lookBack wsX6_from := goodIn_r _ [13, 14, 15, 16, 17, 18, 43, 44, 45, 46, 47, 48, 49, 50] (by decide +kernel) (by decide +kernel)
set_option maxRecDepth 20000 in
theorem gX6_lookBack_X6_from : GoodIn wsX6_lookBack (wsV RX6 57 RX6 yX6_from wsX6_from) := goodIn_app (goodIn_of _ (by decide +kernel)) ggX6_lookBack_X6_from
set_option maxRecDepth 20000 in
theorem ggX6_lookBack_X6_to : GoodIn wsX6_lookBack wsX6_to := goodIn_r _ [22, 14, 15, 16, 17, 18, 43, 44, 45, 46, 47, 48, 49, 50] (by decide +kernel) (by decide +kernel)
set_option maxRecDepth 20000 in
theorem gX6_lookBack_X6_to : GoodIn wsX6_lookBack (wsV RX6 61 RX6 yX6_to wsX6_to) := goodIn_app (goodIn_of _ (by decide +kernel)) ggX6_lookBack_X6_to
set_option maxRecDepth 20000 in
theorem ggX6_lookBack_X6_lookAhead : GoodIn wsX6_lookBack wsX6_lookAhead := goodIn_r _ [26, 2, 1, 9, 10, 11, 12, 13, 14, 15, 16, 17, 18, 19, 20, 21, 22, 27, 28, 29, 30, 31, 32, 33, 34, 35, 36, 37, 38, 39, 40, 41, 42, 43, 44, 45, 46, 47, 48, 49, 50] (by decide +kernel) (by decide +kernel)
set_option maxRecDepth 20000 in
theorem gX6_lookBack_X6_lookAhead : GoodIn wsX6_lookBack (wsV RX6 70 RX6 yX6_lookAhead wsX6_lookAhead) := goodIn_app (goodIn_of _ (by decide +kernel)) ggX6_lookBack_X6_lookAhead
theorem dX6_lookBack_0 : decode cX6_lookBack 0 = .ok (.aload_n 0, 1) := by decide +kernel
theorem dX6_lookBack_1 : decode cX6_lookBack 1 = .ok (.aload_n 1, 1) := by decide +kernel
theorem dX6_lookBack_2 : decode cX6_lookBack 2 = .ok (.iload_n 2, 1) := by decide +kernel
theorem dX6_lookBack_3 : decode cX6_lookBack 3 = .ok (.iaload, 1) := by decide +kernel
theorem dX6_lookBack_4 : decode cX6_lookBack 4 = .ok (.invokevirtual 57, 3) := by decide +kernel
theorem dX6_lookBack_7 : decode cX6_lookBack 7 = .ok (.istore_n 3, 1) := by decide +kernel
theorem dX6_lookBack_8 : decode cX6_lookBack 8 = .ok (.iload_n 3, 1) := by decide +kernel
theorem dX6_lookBack_9 : decode cX6_lookBack 9 = .ok (.aload_n 0, 1) := by decide +kernel
theorem dX6_lookBack_10 : decode cX6_lookBack 10 = .ok (.aload_n 1, 1) := by decide +kernel
theorem dX6_lookBack_11 : decode cX6_lookBack 11 = .ok (.iload_n 2, 1) := by decide +kernel
theorem dX6_lookBack_12 : decode cX6_lookBack 12 = .ok (.iaload, 1) := by decide +kernel
theorem dX6_lookBack_13 : decode cX6_lookBack 13 = .ok (.invokevirtual 61, 3) := by decide +kernel
theorem dX6_lookBack_16 : decode cX6_lookBack 16 = .ok (.if_icmp .ge 21, 3) := by decide +kernel
theorem dX6_lookBack_19 : decode cX6_lookBack 19 = .ok (.aload_n 0, 1) := by decide +kernel
theorem dX6_lookBack_20 : decode cX6_lookBack 20 = .ok (.getfield 21, 3) := by decide +kernel
theorem dX6_lookBack_23 : decode cX6_lookBack 23 = .ok (.aload_n 0, 1) := by decide +kernel
theorem dX6_lookBack_24 : decode cX6_lookBack 24 = .ok (.getfield 15, 3) := by decide +kernel
theorem dX6_lookBack_27 : decode cX6_lookBack 27 = .ok (.iload_n 3, 1) := by decide +kernel
theorem dX6_lookBack_28 : decode cX6_lookBack 28 = .ok (.iaload, 1) := by decide +kernel
theorem dX6_lookBack_29 : decode cX6_lookBack 29 = .ok (.iconst 0, 1) := by decide +kernel
theorem dX6_lookBack_30 : decode cX6_lookBack 30 = .ok (.iastore, 1) := by decide +kernel
theorem dX6_lookBack_31 : decode cX6_lookBack 31 = .ok (.iinc 3 1, 3) := by decide +kernel
theorem dX6_lookBack_34 : decode cX6_lookBack 34 = .ok (.goto (-26), 3) := by decide +kernel
theorem dX6_lookBack_37 : decode cX6_lookBack 37 = .ok (.iload_n 2, 1) := by decide +kernel
theorem dX6_lookBack_38 : decode cX6_lookBack 38 = .ok (.iconst 1, 1) := by decide +kernel
theorem dX6_lookBack_39 : decode cX6_lookBack 39 = .ok (.isub, 1) := by decide +kernel
theorem dX6_lookBack_40 : decode cX6_lookBack 40 = .ok (.istore_n 3, 1) := by decide +kernel
theorem dX6_lookBack_41 : decode cX6_lookBack 41 = .ok (.iload_n 3, 1) := by decide +kernel
theorem dX6_lookBack_42 : decode cX6_lookBack 42 = .ok (.iconst 1, 1) := by decide +kernel
theorem dX6_lookBack_43 : decode cX6_lookBack 43 = .ok (.if_icmp .lt 32, 3) := by decide +kernel
theorem dX6_lookBack_46 : decode cX6_lookBack 46 = .ok (.aload_n 1, 1) := by decide +kernel
theorem dX6_lookBack_47 : decode cX6_lookBack 47 = .ok (.iload_n 3, 1) := by decide +kernel
theorem dX6_lookBack_48 : decode cX6_lookBack 48 = .ok (.iaload, 1) := by decide +kernel
theorem dX6_lookBack_49 : decode cX6_lookBack 49 = .ok (.aload_n 1, 1) := by decide +kernel
theorem dX6_lookBack_50 : decode cX6_lookBack 50 = .ok (.iload_n 3, 1) := by decide +kernel
theorem dX6_lookBack_51 : decode cX6_lookBack 51 = .ok (.iconst 1, 1) := by decide +kernel
theorem dX6_lookBack_52 : decode cX6_lookBack 52 = .ok (.iadd, 1) := by decide +kernel
theorem dX6_lookBack_53 : decode cX6_lookBack 53 = .ok (.iaload, 1) := by decide +kernel
theorem dX6_lookBack_54 : decode cX6_lookBack 54 = .ok (.if_icmp .eq 15, 3) := by decide +kernel
theorem dX6_lookBack_57 : decode cX6_lookBack 57 = .ok (.aload_n 0, 1) := by decide +kernel
theorem dX6_lookBack_58 : decode cX6_lookBack 58 = .ok (.aload_n 1, 1) := by decide +kernel
theorem dX6_lookBack_59 : decode cX6_lookBack 59 = .ok (.iload_n 3, 1) := by decide +kernel
theorem dX6_lookBack_60 : decode cX6_lookBack 60 = .ok (.iaload, 1) := by decide +kernel
theorem dX6_lookBack_61 : decode cX6_lookBack 61 = .ok (.aload_n 1, 1) := by decide +kernel
theorem dX6_lookBack_62 : decode cX6_lookBack 62 = .ok (.iload_n 3, 1) := by decide +kernel
theorem dX6_lookBack_63 : decode cX6_lookBack 63 = .ok (.iconst 1, 1) := by decide +kernel
theorem dX6_lookBack_64 : decode cX6_lookBack 64 = .ok (.iadd, 1) := by decide +kernel
theorem dX6_lookBack_65 : decode cX6_lookBack 65 = .ok (.iaload, 1) := by decide +kernel
theorem dX6_lookBack_66 : decode cX6_lookBack 66 = .ok (.invokevirtual 70, 3) := by decide +kernel
theorem dX6_lookBack_69 : decode cX6_lookBack 69 = .ok (.iinc 3 (-1), 3) := by decide +kernel
theorem dX6_lookBack_72 : decode cX6_lookBack 72 = .ok (.goto (-31), 3) := by decide +kernel
theorem dX6_lookBack_75 : decode cX6_lookBack 75 = .ok (.aload_n 1, 1) := by decide +kernel
theorem dX6_lookBack_76 : decode cX6_lookBack 76 = .ok (.iconst 0, 1) := by decide +kernel
theorem dX6_lookBack_77 : decode cX6_lookBack 77 = .ok (.aload_n 0, 1) := by decide +kernel
theorem dX6_lookBack_78 : decode cX6_lookBack 78 = .ok (.getfield 24, 3) := by decide +kernel
theorem dX6_lookBack_81 : decode cX6_lookBack 81 = .ok (.iconst 0, 1) := by decide +kernel
theorem dX6_lookBack_82 : decode cX6_lookBack 82 = .ok (.bipush 61, 2) := by decide +kernel
theorem dX6_lookBack_84 : decode cX6_lookBack 84 = .ok (.invokestatic 74, 3) := by decide +kernel
theorem dX6_lookBack_87 : decode cX6_lookBack 87 = .ok (.aload_n 0, 1) := by decide +kernel
theorem dX6_lookBack_88 : decode cX6_lookBack 88 = .ok (.iload_n 2, 1) := by decide +kernel
theorem dX6_lookBack_89 : decode cX6_lookBack 89 = .ok (.putfield 36, 3) := by decide +kernel
theorem dX6_lookBack_92 : decode cX6_lookBack 92 = .ok (.return_, 1) := by decide +kernel
theorem dX6_hasLookedBack_0 : decode cX6_hasLookedBack 0 = .ok (.aload_n 0, 1) := by decide +kernel
theorem dX6_hasLookedBack_1 : decode cX6_hasLookedBack 1 = .ok (.getfield 36, 3) := by decide +kernel
theorem dX6_hasLookedBack_4 : decode cX6_hasLookedBack 4 = .ok (.iload_n 3, 1) := by decide +kernel
theorem dX6_hasLookedBack_5 : decode cX6_hasLookedBack 5 = .ok (.if_icmp .ne 14, 3) := by decide +kernel
theorem dX6_hasLookedBack_8 : decode cX6_hasLookedBack 8 = .ok (.aload_n 0, 1) := by decide +kernel
theorem dX6_hasLookedBack_9 : decode cX6_hasLookedBack 9 = .ok (.getfield 33, 3) := by decide +kernel
theorem dX6_hasLookedBack_12 : decode cX6_hasLookedBack 12 = .ok (.aload_n 1, 1) := by decide +kernel
theorem dX6_hasLookedBack_13 : decode cX6_hasLookedBack 13 = .ok (.getfield 27, 3) := by decide +kernel
theorem dX6_hasLookedBack_16 : decode cX6_hasLookedBack 16 = .ok (.if_icmp .eq 5, 3) := by decide +kernel
theorem dX6_hasLookedBack_19 : decode cX6_hasLookedBack 19 = .ok (.iconst 0, 1) := by decide +kernel
theorem dX6_hasLookedBack_20 : decode cX6_hasLookedBack 20 = .ok (.ireturn, 1) := by decide +kernel
theorem dX6_hasLookedBack_21 : decode cX6_hasLookedBack 21 = .ok (.iconst 0, 1) := by decide +kernel
theorem dX6_hasLookedBack_22 : decode cX6_hasLookedBack 22 = .ok (.istore 4, 2) := by decide +kernel
theorem dX6_hasLookedBack_24 : decode cX6_hasLookedBack 24 = .ok (.iload 4, 2) := by decide +kernel
theorem dX6_hasLookedBack_26 : decode cX6_hasLookedBack 26 = .ok (.aload_n 0, 1) := by decide +kernel
theorem dX6_hasLookedBack_27 : decode cX6_hasLookedBack 27 = .ok (.getfield 33, 3) := by decide +kernel
theorem dX6_hasLookedBack_30 : decode cX6_hasLookedBack 30 = .ok (.if_icmp .ge 30, 3) := by decide +kernel
theorem dX6_hasLookedBack_33 : decode cX6_hasLookedBack 33 = .ok (.aload_n 0, 1) := by decide +kernel
theorem dX6_hasLookedBack_34 : decode cX6_hasLookedBack 34 = .ok (.getfield 9, 3) := by decide +kernel
theorem dX6_hasLookedBack_37 : decode cX6_hasLookedBack 37 = .ok (.iconst 1, 1) := by decide +kernel
theorem dX6_hasLookedBack_38 : decode cX6_hasLookedBack 38 = .ok (.iload 4, 2) := by decide +kernel
theorem dX6_hasLookedBack_40 : decode cX6_hasLookedBack 40 = .ok (.ishl, 1) := by decide +kernel
theorem dX6_hasLookedBack_41 : decode cX6_hasLookedBack 41 = .ok (.iaload, 1) := by decide +kernel
theorem dX6_hasLookedBack_42 : decode cX6_hasLookedBack 42 = .ok (.aload_n 1, 1) := by decide +kernel
theorem dX6_hasLookedBack_43 : decode cX6_hasLookedBack 43 = .ok (.getfield 39, 3) := by decide +kernel
theorem dX6_hasLookedBack_46 : decode cX6_hasLookedBack 46 = .ok (.iload 4, 2) := by decide +kernel
theorem dX6_hasLookedBack_48 : decode cX6_hasLookedBack 48 = .ok (.iaload, 1) := by decide +kernel
theorem dX6_hasLookedBack_49 : decode cX6_hasLookedBack 49 = .ok (.if_icmp .eq 5, 3) := by decide +kernel
theorem dX6_hasLookedBack_52 : decode cX6_hasLookedBack 52 = .ok (.iconst 0, 1) := by decide +kernel
theorem dX6_hasLookedBack_53 : decode cX6_hasLookedBack 53 = .ok (.ireturn, 1) := by decide +kernel
theorem dX6_hasLookedBack_54 : decode cX6_hasLookedBack 54 = .ok (.iinc 4 1, 3) := by decide +kernel
theorem dX6_hasLookedBack_57 : decode cX6_hasLookedBack 57 = .ok (.goto (-33), 3) := by decide +kernel
theorem dX6_hasLookedBack_60 : decode cX6_hasLookedBack 60 = .ok (.iconst 1, 1) := by decide +kernel
theorem dX6_hasLookedBack_61 : decode cX6_hasLookedBack 61 = .ok (.istore 4, 2) := by decide +kernel
theorem dX6_hasLookedBack_63 : decode cX6_hasLookedBack 63 = .ok (.iload 4, 2) := by decide +kernel
theorem dX6_hasLookedBack_65 : decode cX6_hasLookedBack 65 = .ok (.iload_n 3, 1) := by decide +kernel
theorem dX6_hasLookedBack_66 : decode cX6_hasLookedBack 66 = .ok (.if_icmp .gt 25, 3) := by decide +kernel
theorem dX6_hasLookedBack_69 : decode cX6_hasLookedBack 69 = .ok (.aload_n 0, 1) := by decide +kernel
theorem dX6_hasLookedBack_70 : decode cX6_hasLookedBack 70 = .ok (.getfield 24, 3) := by decide +kernel
theorem dX6_hasLookedBack_73 : decode cX6_hasLookedBack 73 = .ok (.iload 4, 2) := by decide +kernel
theorem dX6_hasLookedBack_75 : decode cX6_hasLookedBack 75 = .ok (.iaload, 1) := by decide +kernel
theorem dX6_hasLookedBack_76 : decode cX6_hasLookedBack 76 = .ok (.aload_n 2, 1) := by decide +kernel
theorem dX6_hasLookedBack_77 : decode cX6_hasLookedBack 77 = .ok (.iload 4, 2) := by decide +kernel
theorem dX6_hasLookedBack_79 : decode cX6_hasLookedBack 79 = .ok (.iaload, 1) := by decide +kernel
theorem dX6_hasLookedBack_80 : decode cX6_hasLookedBack 80 = .ok (.if_icmp .eq 5, 3) := by decide +kernel
theorem dX6_hasLookedBack_83 : decode cX6_hasLookedBack 83 = .ok (.iconst 0, 1) := by decide +kernel
theorem dX6_hasLookedBack_84 : decode cX6_hasLookedBack 84 = .ok (.ireturn, 1) := by decide +kernel
theorem dX6_hasLookedBack_85 : decode cX6_hasLookedBack 85 = .ok (.iinc 4 1, 3) := by decide +kernel
theorem dX6_hasLookedBack_88 : decode cX6_hasLookedBack 88 = .ok (.goto (-25), 3) := by decide +kernel
theorem dX6_hasLookedBack_91 : decode cX6_hasLookedBack 91 = .ok (.iconst 1, 1) := by decide +kernel
theorem dX6_hasLookedBack_92 : decode cX6_hasLookedBack 92 = .ok (.ireturn, 1) := by decide +kernel
set_option maxRecDepth 20000 in
theorem ggX6_handedInAll_X6_follower : GoodIn wsX6_handedInAll wsX6_follower := goodIn_r _ [5, 6, 7, 8, 9, 10, 4, 11, 12, 13, 14, 15, 16, 17, 18, 19, 20, 21, 22, 23, 24, 25, 26, 27, 28, 29, 30, 31, 32, 33, 34, 35, 36, 37, 38, 39, 40] (by decide +kernel) (by decide +kernel)
set_option maxRecDepth 20000 in
theorem gX6_handedInAll_X6_follower : GoodIn wsX6_handedInAll (wsV RX6 80 RX6 yX6_follower wsX6_follower) := goodIn_app (goodIn_of _ (by decide +kernel)) ggX6_handedInAll_X6_follower
set_option maxRecDepth 20000 in
theorem ggX6_handedInAll_X6_handedTo : GoodIn wsX6_handedInAll wsX6_handedTo := goodIn_r _ [24, 25, 26, 27, 28, 29, 30, 31, 32, 33, 34, 35, 36, 37, 38, 39, 40] (by decide +kernel) (by decide +kernel)

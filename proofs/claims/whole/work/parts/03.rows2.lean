set_option maxRecDepth 20000 in
theorem gX6_handedInAll_X6_handedTo : GoodIn wsX6_handedInAll (wsV RX6 84 RX6 yX6_handedTo wsX6_handedTo) := goodIn_app (goodIn_of _ (by decide +kernel)) ggX6_handedInAll_X6_handedTo
theorem dX6_handedInAll_0 : decode cX6_handedInAll 0 = .ok (.aload_n 0, 1) := by decide +kernel
theorem dX6_handedInAll_1 : decode cX6_handedInAll 1 = .ok (.iconst 0, 1) := by decide +kernel
theorem dX6_handedInAll_2 : decode cX6_handedInAll 2 = .ok (.aload_n 0, 1) := by decide +kernel
theorem dX6_handedInAll_3 : decode cX6_handedInAll 3 = .ok (.iconst 0, 1) := by decide +kernel
theorem dX6_handedInAll_4 : decode cX6_handedInAll 4 = .ok (.aload_n 1, 1) := by decide +kernel
theorem dX6_handedInAll_5 : decode cX6_handedInAll 5 = .ok (.iconst 1, 1) := by decide +kernel
theorem dX6_handedInAll_6 : decode cX6_handedInAll 6 = .ok (.iaload, 1) := by decide +kernel
theorem dX6_handedInAll_7 : decode cX6_handedInAll 7 = .ok (.invokevirtual 80, 3) := by decide +kernel
theorem dX6_handedInAll_10 : decode cX6_handedInAll 10 = .ok (.invokevirtual 84, 3) := by decide +kernel
theorem dX6_handedInAll_13 : decode cX6_handedInAll 13 = .ok (.ireturn, 1) := by decide +kernel
set_option maxRecDepth 20000 in
theorem ggX6_lookAhead_X6_from : GoodIn wsX6_lookAhead wsX6_from := goodIn_r _ [7, 8, 9, 10, 11, 12, 33, 34, 35, 36, 37, 38, 39, 40] (by decide +kernel) (by decide +kernel)
set_option maxRecDepth 20000 in
theorem gX6_lookAhead_X6_from : GoodIn wsX6_lookAhead (wsV RX6 57 RX6 yX6_from wsX6_from) := goodIn_app (goodIn_of _ (by decide +kernel)) ggX6_lookAhead_X6_from
set_option maxRecDepth 20000 in
theorem ggX6_lookAhead_X6_to : GoodIn wsX6_lookAhead wsX6_to := goodIn_r _ [16, 8, 9, 10, 11, 12, 33, 34, 35, 36, 37, 38, 39, 40] (by decide +kernel) (by decide +kernel)
set_option maxRecDepth 20000 in
theorem gX6_lookAhead_X6_to : GoodIn wsX6_lookAhead (wsV RX6 61 RX6 yX6_to wsX6_to) := goodIn_app (goodIn_of _ (by decide +kernel)) ggX6_lookAhead_X6_to
set_option maxRecDepth 20000 in
theorem ggX6_lookAhead_X6_follower : GoodIn wsX6_lookAhead wsX6_follower := goodIn_r _ [20, 21, 1, 13, 14, 15, 6, 16, 8, 9, 10, 11, 12, 3, 4, 5, 7, 22, 23, 24, 25, 2, 26, 27, 28, 29, 30, 31, 32, 33, 34, 35, 36, 37, 38, 39, 40] (by decide +kernel) (by decide +kernel)
set_option maxRecDepth 20000 in
theorem gX6_lookAhead_X6_follower : GoodIn wsX6_lookAhead (wsV RX6 80 RX6 yX6_follower wsX6_follower) := goodIn_app (goodIn_of _ (by decide +kernel)) ggX6_lookAhead_X6_follower
set_option maxRecDepth 20000 in
theorem ggX6_lookAhead_X6_handedTo : GoodIn wsX6_lookAhead wsX6_handedTo := goodIn_r _ [25, 2, 26, 27, 28, 29, 30, 31, 32, 33, 34, 35, 36, 37, 38, 39, 40] (by decide +kernel) (by decide +kernel)
set_option maxRecDepth 20000 in
theorem gX6_lookAhead_X6_handedTo : GoodIn wsX6_lookAhead (wsV RX6 84 RX6 yX6_handedTo wsX6_handedTo) := goodIn_app (goodIn_of _ (by decide +kernel)) ggX6_lookAhead_X6_handedTo
theorem dX6_lookAhead_0 : decode cX6_lookAhead 0 = .ok (.aload_n 0, 1) := by decide +kernel
theorem dX6_lookAhead_1 : decode cX6_lookAhead 1 = .ok (.iload_n 1, 1) := by decide +kernel
theorem dX6_lookAhead_2 : decode cX6_lookAhead 2 = .ok (.invokevirtual 57, 3) := by decide +kernel
theorem dX6_lookAhead_5 : decode cX6_lookAhead 5 = .ok (.istore_n 3, 1) := by decide +kernel
theorem dX6_lookAhead_6 : decode cX6_lookAhead 6 = .ok (.iload_n 3, 1) := by decide +kernel
theorem dX6_lookAhead_7 : decode cX6_lookAhead 7 = .ok (.aload_n 0, 1) := by decide +kernel
theorem dX6_lookAhead_8 : decode cX6_lookAhead 8 = .ok (.iload_n 1, 1) := by decide +kernel
theorem dX6_lookAhead_9 : decode cX6_lookAhead 9 = .ok (.invokevirtual 61, 3) := by decide +kernel
theorem dX6_lookAhead_12 : decode cX6_lookAhead 12 = .ok (.if_icmp .ge 37, 3) := by decide +kernel
theorem dX6_lookAhead_15 : decode cX6_lookAhead 15 = .ok (.aload_n 0, 1) := by decide +kernel
theorem dX6_lookAhead_16 : decode cX6_lookAhead 16 = .ok (.getfield 15, 3) := by decide +kernel
theorem dX6_lookAhead_19 : decode cX6_lookAhead 19 = .ok (.iload_n 3, 1) := by decide +kernel
theorem dX6_lookAhead_20 : decode cX6_lookAhead 20 = .ok (.iaload, 1) := by decide +kernel
theorem dX6_lookAhead_21 : decode cX6_lookAhead 21 = .ok (.istore 4, 2) := by decide +kernel
theorem dX6_lookAhead_23 : decode cX6_lookAhead 23 = .ok (.aload_n 0, 1) := by decide +kernel
theorem dX6_lookAhead_24 : decode cX6_lookAhead 24 = .ok (.getfield 21, 3) := by decide +kernel
theorem dX6_lookAhead_27 : decode cX6_lookAhead 27 = .ok (.iload 4, 2) := by decide +kernel
theorem dX6_lookAhead_29 : decode cX6_lookAhead 29 = .ok (.aload_n 0, 1) := by decide +kernel
theorem dX6_lookAhead_30 : decode cX6_lookAhead 30 = .ok (.iload 4, 2) := by decide +kernel
theorem dX6_lookAhead_32 : decode cX6_lookAhead 32 = .ok (.aload_n 0, 1) := by decide +kernel
theorem dX6_lookAhead_33 : decode cX6_lookAhead 33 = .ok (.iload 4, 2) := by decide +kernel
theorem dX6_lookAhead_35 : decode cX6_lookAhead 35 = .ok (.iload_n 2, 1) := by decide +kernel
theorem dX6_lookAhead_36 : decode cX6_lookAhead 36 = .ok (.invokevirtual 80, 3) := by decide +kernel
theorem dX6_lookAhead_39 : decode cX6_lookAhead 39 = .ok (.invokevirtual 84, 3) := by decide +kernel
theorem dX6_lookAhead_42 : decode cX6_lookAhead 42 = .ok (.iastore, 1) := by decide +kernel
theorem dX6_lookAhead_43 : decode cX6_lookAhead 43 = .ok (.iinc 3 1, 3) := by decide +kernel
theorem dX6_lookAhead_46 : decode cX6_lookAhead 46 = .ok (.goto (-40), 3) := by decide +kernel
theorem dX6_lookAhead_49 : decode cX6_lookAhead 49 = .ok (.return_, 1) := by decide +kernel
set_option maxRecDepth 20000 in
theorem ggX6_handedTo_J6_bitCount_0f7a4 : GoodIn wsX6_handedTo wsJ6_bitCount_0f7a4 := goodIn_r _ [5, 6, 7, 8] (by decide +kernel) (by decide +kernel)
set_option maxRecDepth 20000 in
theorem gX6_handedTo_J6_bitCount_0f7a4 : GoodIn wsX6_handedTo (va_wsS RX6 87 yJ6_bitCount_0f7a4 wsJ6_bitCount_0f7a4) := goodIn_app (goodIn_of _ (by decide +kernel)) ggX6_handedTo_J6_bitCount_0f7a4
theorem dX6_handedTo_0 : decode cX6_handedTo 0 = .ok (.iload_n 1, 1) := by decide +kernel
theorem dX6_handedTo_1 : decode cX6_handedTo 1 = .ok (.iload_n 2, 1) := by decide +kernel
theorem dX6_handedTo_2 : decode cX6_handedTo 2 = .ok (.ixor, 1) := by decide +kernel
theorem dX6_handedTo_3 : decode cX6_handedTo 3 = .ok (.invokestatic 87, 3) := by decide +kernel
theorem dX6_handedTo_6 : decode cX6_handedTo 6 = .ok (.aload_n 0, 1) := by decide +kernel
theorem dX6_handedTo_7 : decode cX6_handedTo 7 = .ok (.getfield 21, 3) := by decide +kernel
theorem dX6_handedTo_10 : decode cX6_handedTo 10 = .ok (.iload_n 2, 1) := by decide +kernel
theorem dX6_handedTo_11 : decode cX6_handedTo 11 = .ok (.iaload, 1) := by decide +kernel
theorem dX6_handedTo_12 : decode cX6_handedTo 12 = .ok (.iadd, 1) := by decide +kernel
theorem dX6_handedTo_13 : decode cX6_handedTo 13 = .ok (.ireturn, 1) := by decide +kernel
set_option maxRecDepth 20000 in
theorem ggX6_follower_X6_to : GoodIn wsX6_follower wsX6_to := goodIn_r _ [7, 8, 9, 10, 11, 12, 29, 30, 31, 32, 33, 34, 35, 36] (by decide +kernel) (by decide +kernel)
set_option maxRecDepth 20000 in
theorem gX6_follower_X6_to : GoodIn wsX6_follower (wsV RX6 61 RX6 yX6_to wsX6_to) := goodIn_app (goodIn_of _ (by decide +kernel)) ggX6_follower_X6_to
set_option maxRecDepth 20000 in
theorem ggX6_follower_X6_from : GoodIn wsX6_follower wsX6_from := goodIn_r _ [16, 8, 9, 10, 11, 12, 29, 30, 31, 32, 33, 34, 35, 36] (by decide +kernel) (by decide +kernel)
set_option maxRecDepth 20000 in
theorem gX6_follower_X6_from : GoodIn wsX6_follower (wsV RX6 57 RX6 yX6_from wsX6_from) := goodIn_app (goodIn_of _ (by decide +kernel)) ggX6_follower_X6_from
set_option maxRecDepth 20000 in
theorem ggX6_follower_X6_handedTo : GoodIn wsX6_follower wsX6_handedTo := goodIn_r _ [20, 21, 22, 23, 24, 25, 26, 27, 28, 29, 30, 31, 32, 33, 34, 35, 36] (by decide +kernel) (by decide +kernel)
set_option maxRecDepth 20000 in
theorem gX6_follower_X6_handedTo : GoodIn wsX6_follower (wsV RX6 84 RX6 yX6_handedTo wsX6_handedTo) := goodIn_app (goodIn_of _ (by decide +kernel)) ggX6_follower_X6_handedTo
theorem dX6_follower_0 : decode cX6_follower 0 = .ok (.iconst 0, 1) := by decide +kernel
theorem dX6_follower_1 : decode cX6_follower 1 = .ok (.istore_n 3, 1) := by decide +kernel
theorem dX6_follower_2 : decode cX6_follower 2 = .ok (.ldc 92, 2) := by decide +kernel
theorem dX6_follower_4 : decode cX6_follower 4 = .ok (.istore 4, 2) := by decide +kernel
theorem dX6_follower_6 : decode cX6_follower 6 = .ok (.aload_n 0, 1) := by decide +kernel
theorem dX6_follower_7 : decode cX6_follower 7 = .ok (.iload_n 2, 1) := by decide +kernel
theorem dX6_follower_8 : decode cX6_follower 8 = .ok (.invokevirtual 61, 3) := by decide +kernel
theorem dX6_follower_11 : decode cX6_follower 11 = .ok (.istore 5, 2) := by decide +kernel
theorem dX6_follower_13 : decode cX6_follower 13 = .ok (.aload_n 0, 1) := by decide +kernel
theorem dX6_follower_14 : decode cX6_follower 14 = .ok (.iload_n 2, 1) := by decide +kernel
theorem dX6_follower_15 : decode cX6_follower 15 = .ok (.invokevirtual 57, 3) := by decide +kernel
theorem dX6_follower_18 : decode cX6_follower 18 = .ok (.istore 6, 2) := by decide +kernel
theorem dX6_follower_20 : decode cX6_follower 20 = .ok (.iload 6, 2) := by decide +kernel
theorem dX6_follower_22 : decode cX6_follower 22 = .ok (.iload 5, 2) := by decide +kernel
theorem dX6_follower_24 : decode cX6_follower 24 = .ok (.if_icmp .ge 42, 3) := by decide +kernel
theorem dX6_follower_27 : decode cX6_follower 27 = .ok (.aload_n 0, 1) := by decide +kernel
theorem dX6_follower_28 : decode cX6_follower 28 = .ok (.iload_n 1, 1) := by decide +kernel
theorem dX6_follower_29 : decode cX6_follower 29 = .ok (.aload_n 0, 1) := by decide +kernel
theorem dX6_follower_30 : decode cX6_follower 30 = .ok (.getfield 15, 3) := by decide +kernel
theorem dX6_follower_33 : decode cX6_follower 33 = .ok (.iload 6, 2) := by decide +kernel
theorem dX6_follower_35 : decode cX6_follower 35 = .ok (.iaload, 1) := by decide +kernel
theorem dX6_follower_36 : decode cX6_follower 36 = .ok (.invokevirtual 84, 3) := by decide +kernel
theorem dX6_follower_39 : decode cX6_follower 39 = .ok (.istore 7, 2) := by decide +kernel
theorem dX6_follower_41 : decode cX6_follower 41 = .ok (.iload 7, 2) := by decide +kernel
theorem dX6_follower_43 : decode cX6_follower 43 = .ok (.iload 4, 2) := by decide +kernel
theorem dX6_follower_45 : decode cX6_follower 45 = .ok (.if_icmp .ge 15, 3) := by decide +kernel
theorem dX6_follower_48 : decode cX6_follower 48 = .ok (.iload 7, 2) := by decide +kernel
theorem dX6_follower_50 : decode cX6_follower 50 = .ok (.istore 4, 2) := by decide +kernel
theorem dX6_follower_52 : decode cX6_follower 52 = .ok (.aload_n 0, 1) := by decide +kernel
theorem dX6_follower_53 : decode cX6_follower 53 = .ok (.getfield 15, 3) := by decide +kernel
theorem dX6_follower_56 : decode cX6_follower 56 = .ok (.iload 6, 2) := by decide +kernel
theorem dX6_follower_58 : decode cX6_follower 58 = .ok (.iaload, 1) := by decide +kernel
theorem dX6_follower_59 : decode cX6_follower 59 = .ok (.istore_n 3, 1) := by decide +kernel
theorem dX6_follower_60 : decode cX6_follower 60 = .ok (.iinc 6 1, 3) := by decide +kernel
theorem dX6_follower_63 : decode cX6_follower 63 = .ok (.goto (-43), 3) := by decide +kernel
theorem dX6_follower_66 : decode cX6_follower 66 = .ok (.iload_n 3, 1) := by decide +kernel
theorem dX6_follower_67 : decode cX6_follower 67 = .ok (.ireturn, 1) := by decide +kernel
set_option maxRecDepth 20000 in
theorem ggX6_onCounter_X6_follower : GoodIn wsX6_onCounter wsX6_follower := goodIn_r _ [5, 6, 7, 8, 9, 10, 4, 11, 12, 13, 14, 15, 16, 17, 18, 19, 20, 21, 22, 23, 24, 25, 26, 27, 28, 29, 30, 31, 32, 33, 34, 35, 36, 37, 38, 39, 40] (by decide +kernel) (by decide +kernel)
set_option maxRecDepth 20000 in
theorem gX6_onCounter_X6_follower : GoodIn wsX6_onCounter (wsV RX6 80 RX6 yX6_follower wsX6_follower) := goodIn_app (goodIn_of _ (by decide +kernel)) ggX6_onCounter_X6_follower
theorem dX6_onCounter_0 : decode cX6_onCounter 0 = .ok (.iconst 0, 1) := by decide +kernel
theorem dX6_onCounter_1 : decode cX6_onCounter 1 = .ok (.istore_n 3, 1) := by decide +kernel
theorem dX6_onCounter_2 : decode cX6_onCounter 2 = .ok (.iconst 1, 1) := by decide +kernel
theorem dX6_onCounter_3 : decode cX6_onCounter 3 = .ok (.istore 4, 2) := by decide +kernel
theorem dX6_onCounter_5 : decode cX6_onCounter 5 = .ok (.iload 4, 2) := by decide +kernel
theorem dX6_onCounter_7 : decode cX6_onCounter 7 = .ok (.iload_n 2, 1) := by decide +kernel
theorem dX6_onCounter_8 : decode cX6_onCounter 8 = .ok (.if_icmp .gt 19, 3) := by decide +kernel
theorem dX6_onCounter_11 : decode cX6_onCounter 11 = .ok (.aload_n 0, 1) := by decide +kernel
theorem dX6_onCounter_12 : decode cX6_onCounter 12 = .ok (.iload_n 3, 1) := by decide +kernel
theorem dX6_onCounter_13 : decode cX6_onCounter 13 = .ok (.aload_n 1, 1) := by decide +kernel
theorem dX6_onCounter_14 : decode cX6_onCounter 14 = .ok (.iload 4, 2) := by decide +kernel
theorem dX6_onCounter_16 : decode cX6_onCounter 16 = .ok (.iaload, 1) := by decide +kernel
theorem dX6_onCounter_17 : decode cX6_onCounter 17 = .ok (.invokevirtual 80, 3) := by decide +kernel
theorem dX6_onCounter_20 : decode cX6_onCounter 20 = .ok (.istore_n 3, 1) := by decide +kernel
theorem dX6_onCounter_21 : decode cX6_onCounter 21 = .ok (.iinc 4 1, 3) := by decide +kernel
theorem dX6_onCounter_24 : decode cX6_onCounter 24 = .ok (.goto (-19), 3) := by decide +kernel
theorem dX6_onCounter_27 : decode cX6_onCounter 27 = .ok (.iload_n 3, 1) := by decide +kernel
theorem dX6_onCounter_28 : decode cX6_onCounter 28 = .ok (.ireturn, 1) := by decide +kernel
theorem dX7_init_0 : decode cX7_init 0 = .ok (.aload_n 0, 1) := by decide +kernel
theorem dX7_init_1 : decode cX7_init 1 = .ok (.invokespecial 3, 3) := by decide +kernel
theorem dX7_init_4 : decode cX7_init 4 = .ok (.aload_n 0, 1) := by decide +kernel
theorem dX7_init_5 : decode cX7_init 5 = .ok (.bipush 24, 2) := by decide +kernel
theorem dX7_init_7 : decode cX7_init 7 = .ok (.newarray .long, 2) := by decide +kernel
theorem dX7_init_9 : decode cX7_init 9 = .ok (.putfield 9, 3) := by decide +kernel
theorem dX7_init_12 : decode cX7_init 12 = .ok (.return_, 1) := by decide +kernel
theorem dX7_renew_0 : decode cX7_renew 0 = .ok (.aload_n 0, 1) := by decide +kernel
theorem dX7_renew_1 : decode cX7_renew 1 = .ok (.iconst 1, 1) := by decide +kernel
theorem dX7_renew_2 : decode cX7_renew 2 = .ok (.putfield 15, 3) := by decide +kernel
theorem dX7_renew_5 : decode cX7_renew 5 = .ok (.aload_n 0, 1) := by decide +kernel
theorem dX7_renew_6 : decode cX7_renew 6 = .ok (.iload_n 1, 1) := by decide +kernel
theorem dX7_renew_7 : decode cX7_renew 7 = .ok (.putfield 19, 3) := by decide +kernel
theorem dX7_renew_10 : decode cX7_renew 10 = .ok (.aload_n 0, 1) := by decide +kernel
theorem dX7_renew_11 : decode cX7_renew 11 = .ok (.iload_n 2, 1) := by decide +kernel
theorem dX7_renew_12 : decode cX7_renew 12 = .ok (.putfield 23, 3) := by decide +kernel
theorem dX7_renew_15 : decode cX7_renew 15 = .ok (.iconst 0, 1) := by decide +kernel
theorem dX7_renew_16 : decode cX7_renew 16 = .ok (.istore_n 3, 1) := by decide +kernel
theorem dX7_renew_17 : decode cX7_renew 17 = .ok (.iload_n 3, 1) := by decide +kernel
theorem dX7_renew_18 : decode cX7_renew 18 = .ok (.bipush 24, 2) := by decide +kernel
theorem dX7_renew_20 : decode cX7_renew 20 = .ok (.if_icmp .ge 16, 3) := by decide +kernel
theorem dX7_renew_23 : decode cX7_renew 23 = .ok (.aload_n 0, 1) := by decide +kernel
theorem dX7_renew_24 : decode cX7_renew 24 = .ok (.getfield 9, 3) := by decide +kernel
theorem dX7_renew_27 : decode cX7_renew 27 = .ok (.iload_n 3, 1) := by decide +kernel
theorem dX7_renew_28 : decode cX7_renew 28 = .ok (.lconst 0, 1) := by decide +kernel
theorem dX7_renew_29 : decode cX7_renew 29 = .ok (.lastore, 1) := by decide +kernel
theorem dX7_renew_30 : decode cX7_renew 30 = .ok (.iinc 3 1, 3) := by decide +kernel
theorem dX7_renew_33 : decode cX7_renew 33 = .ok (.goto (-16), 3) := by decide +kernel
theorem dX7_renew_36 : decode cX7_renew 36 = .ok (.return_, 1) := by decide +kernel
theorem dX7_spans_0 : decode cX7_spans 0 = .ok (.iload_n 1, 1) := by decide +kernel
theorem dX7_spans_1 : decode cX7_spans 1 = .ok (.ifCond .lt 29, 3) := by decide +kernel
theorem dX7_spans_4 : decode cX7_spans 4 = .ok (.iload_n 2, 1) := by decide +kernel
theorem dX7_spans_5 : decode cX7_spans 5 = .ok (.ifCond .lt 25, 3) := by decide +kernel
theorem dX7_spans_8 : decode cX7_spans 8 = .ok (.iload_n 2, 1) := by decide +kernel
theorem dX7_spans_9 : decode cX7_spans 9 = .ok (.aload_n 0, 1) := by decide +kernel
theorem dX7_spans_10 : decode cX7_spans 10 = .ok (.getfield 23, 3) := by decide +kernel
theorem dX7_spans_13 : decode cX7_spans 13 = .ok (.if_icmp .gt 17, 3) := by decide +kernel
theorem dX7_spans_16 : decode cX7_spans 16 = .ok (.iload_n 1, 1) := by decide +kernel
theorem dX7_spans_17 : decode cX7_spans 17 = .ok (.aload_n 0, 1) := by decide +kernel
theorem dX7_spans_18 : decode cX7_spans 18 = .ok (.getfield 23, 3) := by decide +kernel
theorem dX7_spans_21 : decode cX7_spans 21 = .ok (.iload_n 2, 1) := by decide +kernel
theorem dX7_spans_22 : decode cX7_spans 22 = .ok (.isub, 1) := by decide +kernel
theorem dX7_spans_23 : decode cX7_spans 23 = .ok (.if_icmp .gt 7, 3) := by decide +kernel
theorem dX7_spans_26 : decode cX7_spans 26 = .ok (.iconst 1, 1) := by decide +kernel
theorem dX7_spans_27 : decode cX7_spans 27 = .ok (.goto 4, 3) := by decide +kernel
theorem dX7_spans_30 : decode cX7_spans 30 = .ok (.iconst 0, 1) := by decide +kernel
theorem dX7_spans_31 : decode cX7_spans 31 = .ok (.ireturn, 1) := by decide +kernel
set_option maxRecDepth 20000 in
theorem ggX7_refusal_X7_spans : GoodIn wsX7_refusal wsX7_spans := goodIn_r _ [7, 8, 9, 10, 11, 12] (by decide +kernel) (by decide +kernel)
set_option maxRecDepth 20000 in
theorem gX7_refusal_X7_spans : GoodIn wsX7_refusal (wsV RX7 26 RX7 yX7_spans wsX7_spans) := goodIn_app (goodIn_of _ (by decide +kernel)) ggX7_refusal_X7_spans
theorem dX7_refusal_0 : decode cX7_refusal 0 = .ok (.aload_n 0, 1) := by decide +kernel
theorem dX7_refusal_1 : decode cX7_refusal 1 = .ok (.getfield 15, 3) := by decide +kernel
theorem dX7_refusal_4 : decode cX7_refusal 4 = .ok (.ifCond .ne 6, 3) := by decide +kernel
theorem dX7_refusal_7 : decode cX7_refusal 7 = .ok (.bipush (-11), 2) := by decide +kernel
theorem dX7_refusal_9 : decode cX7_refusal 9 = .ok (.ireturn, 1) := by decide +kernel
theorem dX7_refusal_10 : decode cX7_refusal 10 = .ok (.aload_n 0, 1) := by decide +kernel
theorem dX7_refusal_11 : decode cX7_refusal 11 = .ok (.getfield 19, 3) := by decide +kernel
theorem dX7_refusal_14 : decode cX7_refusal 14 = .ok (.iload_n 1, 1) := by decide +kernel
theorem dX7_refusal_15 : decode cX7_refusal 15 = .ok (.if_icmp .eq 6, 3) := by decide +kernel
theorem dX7_refusal_18 : decode cX7_refusal 18 = .ok (.bipush (-12), 2) := by decide +kernel
theorem dX7_refusal_20 : decode cX7_refusal 20 = .ok (.ireturn, 1) := by decide +kernel
theorem dX7_refusal_21 : decode cX7_refusal 21 = .ok (.aload_n 0, 1) := by decide +kernel
theorem dX7_refusal_22 : decode cX7_refusal 22 = .ok (.iload_n 2, 1) := by decide +kernel
theorem dX7_refusal_23 : decode cX7_refusal 23 = .ok (.iload_n 3, 1) := by decide +kernel
theorem dX7_refusal_24 : decode cX7_refusal 24 = .ok (.invokevirtual 26, 3) := by decide +kernel
theorem dX7_refusal_27 : decode cX7_refusal 27 = .ok (.ifCond .eq 7, 3) := by decide +kernel
theorem dX7_refusal_30 : decode cX7_refusal 30 = .ok (.iconst 0, 1) := by decide +kernel
theorem dX7_refusal_31 : decode cX7_refusal 31 = .ok (.goto 5, 3) := by decide +kernel
theorem dX7_refusal_34 : decode cX7_refusal 34 = .ok (.bipush (-13), 2) := by decide +kernel
theorem dX7_refusal_36 : decode cX7_refusal 36 = .ok (.ireturn, 1) := by decide +kernel
theorem dX7_put_0 : decode cX7_put 0 = .ok (.aload_n 0, 1) := by decide +kernel
theorem dX7_put_1 : decode cX7_put 1 = .ok (.getfield 9, 3) := by decide +kernel
theorem dX7_put_4 : decode cX7_put 4 = .ok (.iload_n 1, 1) := by decide +kernel
theorem dX7_put_5 : decode cX7_put 5 = .ok (.aload_n 0, 1) := by decide +kernel
theorem dX7_put_6 : decode cX7_put 6 = .ok (.getfield 19, 3) := by decide +kernel
theorem dX7_put_9 : decode cX7_put 9 = .ok (.ifCond .ne 10, 3) := by decide +kernel
theorem dX7_put_12 : decode cX7_put 12 = .ok (.lload_n 2, 1) := by decide +kernel
theorem dX7_put_13 : decode cX7_put 13 = .ok (.l2i, 1) := by decide +kernel
theorem dX7_put_14 : decode cX7_put 14 = .ok (.i2b, 1) := by decide +kernel
theorem dX7_put_15 : decode cX7_put 15 = .ok (.i2l, 1) := by decide +kernel
theorem dX7_put_16 : decode cX7_put 16 = .ok (.goto 18, 3) := by decide +kernel
theorem dX7_put_19 : decode cX7_put 19 = .ok (.aload_n 0, 1) := by decide +kernel
theorem dX7_put_20 : decode cX7_put 20 = .ok (.getfield 19, 3) := by decide +kernel
theorem dX7_put_23 : decode cX7_put 23 = .ok (.iconst 1, 1) := by decide +kernel
theorem dX7_put_24 : decode cX7_put 24 = .ok (.if_icmp .ne 9, 3) := by decide +kernel
theorem dX7_put_27 : decode cX7_put 27 = .ok (.lload_n 2, 1) := by decide +kernel
theorem dX7_put_28 : decode cX7_put 28 = .ok (.l2i, 1) := by decide +kernel
theorem dX7_put_29 : decode cX7_put 29 = .ok (.i2l, 1) := by decide +kernel
theorem dX7_put_30 : decode cX7_put 30 = .ok (.goto 4, 3) := by decide +kernel
theorem dX7_put_33 : decode cX7_put 33 = .ok (.lload_n 2, 1) := by decide +kernel
theorem dX7_put_34 : decode cX7_put 34 = .ok (.lastore, 1) := by decide +kernel
theorem dX7_put_35 : decode cX7_put 35 = .ok (.return_, 1) := by decide +kernel
theorem dX8_init_0 : decode cX8_init 0 = .ok (.aload_n 0, 1) := by decide +kernel
theorem dX8_init_1 : decode cX8_init 1 = .ok (.invokespecial 3, 3) := by decide +kernel
theorem dX8_init_4 : decode cX8_init 4 = .ok (.aload_n 0, 1) := by decide +kernel
theorem dX8_init_5 : decode cX8_init 5 = .ok (.iconst 4, 1) := by decide +kernel
theorem dX8_init_6 : decode cX8_init 6 = .ok (.newarray .long, 2) := by decide +kernel
theorem dX8_init_8 : decode cX8_init 8 = .ok (.putfield 9, 3) := by decide +kernel
theorem dX8_init_11 : decode cX8_init 11 = .ok (.return_, 1) := by decide +kernel
set_option maxRecDepth 20000 in
theorem ggX8_load_X5_whole : GoodIn wsX8_load wsX5_whole := goodIn_r _ [9, 10, 11, 19, 20, 21, 22] (by decide +kernel) (by decide +kernel)
set_option maxRecDepth 20000 in
theorem gX8_load_X5_whole : GoodIn wsX8_load (wsV RX8 15 RX5 yX5_whole wsX5_whole) := goodIn_app (goodIn_of _ (by decide +kernel)) ggX8_load_X5_whole
set_option maxRecDepth 20000 in
theorem ggX8_load_X8_addPiece : GoodIn wsX8_load wsX8_addPiece := goodIn_r _ [16, 1, 2, 17, 18] (by decide +kernel) (by decide +kernel)
set_option maxRecDepth 20000 in
theorem gX8_load_X8_addPiece : GoodIn wsX8_load (wsV RX8 32 RX8 yX8_addPiece wsX8_addPiece) := goodIn_app (goodIn_of _ (by decide +kernel)) ggX8_load_X8_addPiece
theorem dX8_load_0 : decode cX8_load 0 = .ok (.aload_n 0, 1) := by decide +kernel
theorem dX8_load_1 : decode cX8_load 1 = .ok (.aload_n 1, 1) := by decide +kernel
theorem dX8_load_2 : decode cX8_load 2 = .ok (.invokevirtual 15, 3) := by decide +kernel
theorem dX8_load_5 : decode cX8_load 5 = .ok (.bipush 6, 2) := by decide +kernel
theorem dX8_load_7 : decode cX8_load 7 = .ok (.ishr, 1) := by decide +kernel
theorem dX8_load_8 : decode cX8_load 8 = .ok (.iconst 1, 1) := by decide +kernel
theorem dX8_load_9 : decode cX8_load 9 = .ok (.iadd, 1) := by decide +kernel
theorem dX8_load_10 : decode cX8_load 10 = .ok (.putfield 21, 3) := by decide +kernel
theorem dX8_load_13 : decode cX8_load 13 = .ok (.iconst 0, 1) := by decide +kernel
theorem dX8_load_14 : decode cX8_load 14 = .ok (.istore_n 2, 1) := by decide +kernel
theorem dX8_load_15 : decode cX8_load 15 = .ok (.iload_n 2, 1) := by decide +kernel
theorem dX8_load_16 : decode cX8_load 16 = .ok (.aload_n 0, 1) := by decide +kernel
theorem dX8_load_17 : decode cX8_load 17 = .ok (.getfield 21, 3) := by decide +kernel
theorem dX8_load_20 : decode cX8_load 20 = .ok (.if_icmp .ge 16, 3) := by decide +kernel
theorem dX8_load_23 : decode cX8_load 23 = .ok (.aload_n 0, 1) := by decide +kernel
theorem dX8_load_24 : decode cX8_load 24 = .ok (.getfield 9, 3) := by decide +kernel
theorem dX8_load_27 : decode cX8_load 27 = .ok (.iload_n 2, 1) := by decide +kernel
theorem dX8_load_28 : decode cX8_load 28 = .ok (.lconst 0, 1) := by decide +kernel
theorem dX8_load_29 : decode cX8_load 29 = .ok (.lastore, 1) := by decide +kernel
theorem dX8_load_30 : decode cX8_load 30 = .ok (.iinc 2 1, 3) := by decide +kernel
theorem dX8_load_33 : decode cX8_load 33 = .ok (.goto (-18), 3) := by decide +kernel
theorem dX8_load_36 : decode cX8_load 36 = .ok (.aload_n 0, 1) := by decide +kernel
theorem dX8_load_37 : decode cX8_load 37 = .ok (.getfield 9, 3) := by decide +kernel
theorem dX8_load_40 : decode cX8_load 40 = .ok (.iconst 0, 1) := by decide +kernel
theorem dX8_load_41 : decode cX8_load 41 = .ok (.lconst 1, 1) := by decide +kernel
theorem dX8_load_42 : decode cX8_load 42 = .ok (.lastore, 1) := by decide +kernel
theorem dX8_load_43 : decode cX8_load 43 = .ok (.iconst 0, 1) := by decide +kernel
theorem dX8_load_44 : decode cX8_load 44 = .ok (.istore_n 2, 1) := by decide +kernel
theorem dX8_load_45 : decode cX8_load 45 = .ok (.iload_n 2, 1) := by decide +kernel
theorem dX8_load_46 : decode cX8_load 46 = .ok (.aload_n 1, 1) := by decide +kernel
theorem dX8_load_47 : decode cX8_load 47 = .ok (.getfield 25, 3) := by decide +kernel
theorem dX8_load_50 : decode cX8_load 50 = .ok (.if_icmp .ge 19, 3) := by decide +kernel
theorem dX8_load_53 : decode cX8_load 53 = .ok (.aload_n 0, 1) := by decide +kernel
theorem dX8_load_54 : decode cX8_load 54 = .ok (.aload_n 1, 1) := by decide +kernel
theorem dX8_load_55 : decode cX8_load 55 = .ok (.getfield 28, 3) := by decide +kernel
theorem dX8_load_58 : decode cX8_load 58 = .ok (.iload_n 2, 1) := by decide +kernel
theorem dX8_load_59 : decode cX8_load 59 = .ok (.iaload, 1) := by decide +kernel
theorem dX8_load_60 : decode cX8_load 60 = .ok (.invokevirtual 32, 3) := by decide +kernel
theorem dX8_load_63 : decode cX8_load 63 = .ok (.iinc 2 1, 3) := by decide +kernel
theorem dX8_load_66 : decode cX8_load 66 = .ok (.goto (-21), 3) := by decide +kernel
theorem dX8_load_69 : decode cX8_load 69 = .ok (.return_, 1) := by decide +kernel
theorem dX8_addPiece_0 : decode cX8_addPiece 0 = .ok (.iload_n 1, 1) := by decide +kernel
theorem dX8_addPiece_1 : decode cX8_addPiece 1 = .ok (.bipush 6, 2) := by decide +kernel
theorem dX8_addPiece_3 : decode cX8_addPiece 3 = .ok (.ishr, 1) := by decide +kernel
theorem dX8_addPiece_4 : decode cX8_addPiece 4 = .ok (.istore_n 2, 1) := by decide +kernel
theorem dX8_addPiece_5 : decode cX8_addPiece 5 = .ok (.iload_n 1, 1) := by decide +kernel
theorem dX8_addPiece_6 : decode cX8_addPiece 6 = .ok (.bipush 63, 2) := by decide +kernel
theorem dX8_addPiece_8 : decode cX8_addPiece 8 = .ok (.iand, 1) := by decide +kernel
theorem dX8_addPiece_9 : decode cX8_addPiece 9 = .ok (.istore_n 3, 1) := by decide +kernel
theorem dX8_addPiece_10 : decode cX8_addPiece 10 = .ok (.aload_n 0, 1) := by decide +kernel
theorem dX8_addPiece_11 : decode cX8_addPiece 11 = .ok (.getfield 21, 3) := by decide +kernel
theorem dX8_addPiece_14 : decode cX8_addPiece 14 = .ok (.iconst 1, 1) := by decide +kernel
theorem dX8_addPiece_15 : decode cX8_addPiece 15 = .ok (.isub, 1) := by decide +kernel
theorem dX8_addPiece_16 : decode cX8_addPiece 16 = .ok (.istore 4, 2) := by decide +kernel
theorem dX8_addPiece_18 : decode cX8_addPiece 18 = .ok (.iload 4, 2) := by decide +kernel
theorem dX8_addPiece_20 : decode cX8_addPiece 20 = .ok (.iload_n 2, 1) := by decide +kernel
theorem dX8_addPiece_21 : decode cX8_addPiece 21 = .ok (.if_icmp .lt 65, 3) := by decide +kernel
theorem dX8_addPiece_24 : decode cX8_addPiece 24 = .ok (.aload_n 0, 1) := by decide +kernel
theorem dX8_addPiece_25 : decode cX8_addPiece 25 = .ok (.getfield 9, 3) := by decide +kernel
theorem dX8_addPiece_28 : decode cX8_addPiece 28 = .ok (.iload 4, 2) := by decide +kernel
theorem dX8_addPiece_30 : decode cX8_addPiece 30 = .ok (.iload_n 2, 1) := by decide +kernel
theorem dX8_addPiece_31 : decode cX8_addPiece 31 = .ok (.isub, 1) := by decide +kernel
theorem dX8_addPiece_32 : decode cX8_addPiece 32 = .ok (.laload, 1) := by decide +kernel
theorem dX8_addPiece_33 : decode cX8_addPiece 33 = .ok (.iload_n 3, 1) := by decide +kernel
theorem dX8_addPiece_34 : decode cX8_addPiece 34 = .ok (.lshl, 1) := by decide +kernel
theorem dX8_addPiece_35 : decode cX8_addPiece 35 = .ok (.lstore 5, 2) := by decide +kernel
theorem dX8_addPiece_37 : decode cX8_addPiece 37 = .ok (.iload_n 3, 1) := by decide +kernel
theorem dX8_addPiece_38 : decode cX8_addPiece 38 = .ok (.ifCond .le 30, 3) := by decide +kernel
theorem dX8_addPiece_41 : decode cX8_addPiece 41 = .ok (.iload 4, 2) := by decide +kernel
theorem dX8_addPiece_43 : decode cX8_addPiece 43 = .ok (.iload_n 2, 1) := by decide +kernel
theorem dX8_addPiece_44 : decode cX8_addPiece 44 = .ok (.if_icmp .le 24, 3) := by decide +kernel
theorem dX8_addPiece_47 : decode cX8_addPiece 47 = .ok (.lload 5, 2) := by decide +kernel
theorem dX8_addPiece_49 : decode cX8_addPiece 49 = .ok (.aload_n 0, 1) := by decide +kernel
theorem dX8_addPiece_50 : decode cX8_addPiece 50 = .ok (.getfield 9, 3) := by decide +kernel
theorem dX8_addPiece_53 : decode cX8_addPiece 53 = .ok (.iload 4, 2) := by decide +kernel
theorem dX8_addPiece_55 : decode cX8_addPiece 55 = .ok (.iload_n 2, 1) := by decide +kernel
theorem dX8_addPiece_56 : decode cX8_addPiece 56 = .ok (.isub, 1) := by decide +kernel
theorem dX8_addPiece_57 : decode cX8_addPiece 57 = .ok (.iconst 1, 1) := by decide +kernel
theorem dX8_addPiece_58 : decode cX8_addPiece 58 = .ok (.isub, 1) := by decide +kernel
theorem dX8_addPiece_59 : decode cX8_addPiece 59 = .ok (.laload, 1) := by decide +kernel
theorem dX8_addPiece_60 : decode cX8_addPiece 60 = .ok (.bipush 64, 2) := by decide +kernel
theorem dX8_addPiece_62 : decode cX8_addPiece 62 = .ok (.iload_n 3, 1) := by decide +kernel
theorem dX8_addPiece_63 : decode cX8_addPiece 63 = .ok (.isub, 1) := by decide +kernel
theorem dX8_addPiece_64 : decode cX8_addPiece 64 = .ok (.lushr, 1) := by decide +kernel
theorem dX8_addPiece_65 : decode cX8_addPiece 65 = .ok (.lor, 1) := by decide +kernel
theorem dX8_addPiece_66 : decode cX8_addPiece 66 = .ok (.lstore 5, 2) := by decide +kernel
theorem dX8_addPiece_68 : decode cX8_addPiece 68 = .ok (.aload_n 0, 1) := by decide +kernel
theorem dX8_addPiece_69 : decode cX8_addPiece 69 = .ok (.getfield 9, 3) := by decide +kernel
theorem dX8_addPiece_72 : decode cX8_addPiece 72 = .ok (.iload 4, 2) := by decide +kernel
theorem dX8_addPiece_74 : decode cX8_addPiece 74 = .ok (.dup2, 1) := by decide +kernel
theorem dX8_addPiece_75 : decode cX8_addPiece 75 = .ok (.laload, 1) := by decide +kernel
theorem dX8_addPiece_76 : decode cX8_addPiece 76 = .ok (.lload 5, 2) := by decide +kernel
theorem dX8_addPiece_78 : decode cX8_addPiece 78 = .ok (.lor, 1) := by decide +kernel
theorem dX8_addPiece_79 : decode cX8_addPiece 79 = .ok (.lastore, 1) := by decide +kernel
theorem dX8_addPiece_80 : decode cX8_addPiece 80 = .ok (.iinc 4 (-1), 3) := by decide +kernel
theorem dX8_addPiece_83 : decode cX8_addPiece 83 = .ok (.goto (-65), 3) := by decide +kernel
theorem dX8_addPiece_86 : decode cX8_addPiece 86 = .ok (.return_, 1) := by decide +kernel
theorem dX8_has_0 : decode cX8_has 0 = .ok (.iload_n 1, 1) := by decide +kernel
theorem dX8_has_1 : decode cX8_has 1 = .ok (.ifCond .lt 39, 3) := by decide +kernel
theorem dX8_has_4 : decode cX8_has 4 = .ok (.iload_n 1, 1) := by decide +kernel
theorem dX8_has_5 : decode cX8_has 5 = .ok (.bipush 6, 2) := by decide +kernel
theorem dX8_has_7 : decode cX8_has 7 = .ok (.ishr, 1) := by decide +kernel
theorem dX8_has_8 : decode cX8_has 8 = .ok (.aload_n 0, 1) := by decide +kernel
theorem dX8_has_9 : decode cX8_has 9 = .ok (.getfield 21, 3) := by decide +kernel
theorem dX8_has_12 : decode cX8_has 12 = .ok (.if_icmp .ge 28, 3) := by decide +kernel
theorem dX8_has_15 : decode cX8_has 15 = .ok (.aload_n 0, 1) := by decide +kernel
theorem dX8_has_16 : decode cX8_has 16 = .ok (.getfield 9, 3) := by decide +kernel
theorem dX8_has_19 : decode cX8_has 19 = .ok (.iload_n 1, 1) := by decide +kernel
theorem dX8_has_20 : decode cX8_has 20 = .ok (.bipush 6, 2) := by decide +kernel
theorem dX8_has_22 : decode cX8_has 22 = .ok (.ishr, 1) := by decide +kernel
theorem dX8_has_23 : decode cX8_has 23 = .ok (.laload, 1) := by decide +kernel
theorem dX8_has_24 : decode cX8_has 24 = .ok (.iload_n 1, 1) := by decide +kernel
theorem dX8_has_25 : decode cX8_has 25 = .ok (.bipush 63, 2) := by decide +kernel
theorem dX8_has_27 : decode cX8_has 27 = .ok (.iand, 1) := by decide +kernel
theorem dX8_has_28 : decode cX8_has 28 = .ok (.lushr, 1) := by decide +kernel
theorem dX8_has_29 : decode cX8_has 29 = .ok (.lconst 1, 1) := by decide +kernel
theorem dX8_has_30 : decode cX8_has 30 = .ok (.land, 1) := by decide +kernel
theorem dX8_has_31 : decode cX8_has 31 = .ok (.lconst 0, 1) := by decide +kernel
theorem dX8_has_32 : decode cX8_has 32 = .ok (.lcmp, 1) := by decide +kernel
theorem dX8_has_33 : decode cX8_has 33 = .ok (.ifCond .eq 7, 3) := by decide +kernel
theorem dX8_has_36 : decode cX8_has 36 = .ok (.iconst 1, 1) := by decide +kernel
theorem dX8_has_37 : decode cX8_has 37 = .ok (.goto 4, 3) := by decide +kernel
theorem dX8_has_40 : decode cX8_has 40 = .ok (.iconst 0, 1) := by decide +kernel
theorem dX8_has_41 : decode cX8_has 41 = .ok (.ireturn, 1) := by decide +kernel
set_option maxRecDepth 20000 in
theorem ggX8_daysInRow_X8_has : GoodIn wsX8_daysInRow wsX8_has := goodIn_r _ [5, 6, 7, 8, 9] (by decide +kernel) (by decide +kernel)
set_option maxRecDepth 20000 in
theorem gX8_daysInRow_X8_has : GoodIn wsX8_daysInRow (wsV RX8 36 RX8 yX8_has wsX8_has) := goodIn_app (goodIn_of _ (by decide +kernel)) ggX8_daysInRow_X8_has
theorem dX8_daysInRow_0 : decode cX8_daysInRow 0 = .ok (.iconst 0, 1) := by decide +kernel
theorem dX8_daysInRow_1 : decode cX8_daysInRow 1 = .ok (.istore_n 2, 1) := by decide +kernel
theorem dX8_daysInRow_2 : decode cX8_daysInRow 2 = .ok (.iload_n 2, 1) := by decide +kernel
theorem dX8_daysInRow_3 : decode cX8_daysInRow 3 = .ok (.bipush 60, 2) := by decide +kernel
theorem dX8_daysInRow_5 : decode cX8_daysInRow 5 = .ok (.if_icmp .ge 21, 3) := by decide +kernel
theorem dX8_daysInRow_8 : decode cX8_daysInRow 8 = .ok (.aload_n 0, 1) := by decide +kernel
theorem dX8_daysInRow_9 : decode cX8_daysInRow 9 = .ok (.aload_n 1, 1) := by decide +kernel
theorem dX8_daysInRow_10 : decode cX8_daysInRow 10 = .ok (.iload_n 2, 1) := by decide +kernel
theorem dX8_daysInRow_11 : decode cX8_daysInRow 11 = .ok (.iconst 1, 1) := by decide +kernel
theorem dX8_daysInRow_12 : decode cX8_daysInRow 12 = .ok (.iadd, 1) := by decide +kernel
theorem dX8_daysInRow_13 : decode cX8_daysInRow 13 = .ok (.iaload, 1) := by decide +kernel
theorem dX8_daysInRow_14 : decode cX8_daysInRow 14 = .ok (.invokevirtual 36, 3) := by decide +kernel
theorem dX8_daysInRow_17 : decode cX8_daysInRow 17 = .ok (.ifCond .eq 9, 3) := by decide +kernel
theorem dX8_daysInRow_20 : decode cX8_daysInRow 20 = .ok (.iinc 2 1, 3) := by decide +kernel
theorem dX8_daysInRow_23 : decode cX8_daysInRow 23 = .ok (.goto (-21), 3) := by decide +kernel
theorem dX8_daysInRow_26 : decode cX8_daysInRow 26 = .ok (.iload_n 2, 1) := by decide +kernel
theorem dX8_daysInRow_27 : decode cX8_daysInRow 27 = .ok (.ireturn, 1) := by decide +kernel
set_option maxRecDepth 20000 in
theorem ggX8_paidDays_X8_has : GoodIn wsX8_paidDays wsX8_has := goodIn_r _ [5, 6, 7, 8, 9] (by decide +kernel) (by decide +kernel)
set_option maxRecDepth 20000 in
theorem gX8_paidDays_X8_has : GoodIn wsX8_paidDays (wsV RX8 36 RX8 yX8_has wsX8_has) := goodIn_app (goodIn_of _ (by decide +kernel)) ggX8_paidDays_X8_has
theorem dX8_paidDays_0 : decode cX8_paidDays 0 = .ok (.lconst 0, 1) := by decide +kernel
theorem dX8_paidDays_1 : decode cX8_paidDays 1 = .ok (.lstore_n 2, 1) := by decide +kernel
theorem dX8_paidDays_2 : decode cX8_paidDays 2 = .ok (.iconst 1, 1) := by decide +kernel
theorem dX8_paidDays_3 : decode cX8_paidDays 3 = .ok (.istore 4, 2) := by decide +kernel
theorem dX8_paidDays_5 : decode cX8_paidDays 5 = .ok (.iload 4, 2) := by decide +kernel
theorem dX8_paidDays_7 : decode cX8_paidDays 7 = .ok (.bipush 60, 2) := by decide +kernel
theorem dX8_paidDays_9 : decode cX8_paidDays 9 = .ok (.if_icmp .gt 27, 3) := by decide +kernel
theorem dX8_paidDays_12 : decode cX8_paidDays 12 = .ok (.aload_n 0, 1) := by decide +kernel
theorem dX8_paidDays_13 : decode cX8_paidDays 13 = .ok (.aload_n 1, 1) := by decide +kernel
theorem dX8_paidDays_14 : decode cX8_paidDays 14 = .ok (.iload 4, 2) := by decide +kernel
theorem dX8_paidDays_16 : decode cX8_paidDays 16 = .ok (.iaload, 1) := by decide +kernel
theorem dX8_paidDays_17 : decode cX8_paidDays 17 = .ok (.invokevirtual 36, 3) := by decide +kernel
theorem dX8_paidDays_20 : decode cX8_paidDays 20 = .ok (.ifCond .eq 10, 3) := by decide +kernel
theorem dX8_paidDays_23 : decode cX8_paidDays 23 = .ok (.lload_n 2, 1) := by decide +kernel
theorem dX8_paidDays_24 : decode cX8_paidDays 24 = .ok (.lconst 1, 1) := by decide +kernel
theorem dX8_paidDays_25 : decode cX8_paidDays 25 = .ok (.iload 4, 2) := by decide +kernel
theorem dX8_paidDays_27 : decode cX8_paidDays 27 = .ok (.lshl, 1) := by decide +kernel
theorem dX8_paidDays_28 : decode cX8_paidDays 28 = .ok (.lor, 1) := by decide +kernel
theorem dX8_paidDays_29 : decode cX8_paidDays 29 = .ok (.lstore_n 2, 1) := by decide +kernel
theorem dX8_paidDays_30 : decode cX8_paidDays 30 = .ok (.iinc 4 1, 3) := by decide +kernel
theorem dX8_paidDays_33 : decode cX8_paidDays 33 = .ok (.goto (-28), 3) := by decide +kernel
theorem dX8_paidDays_36 : decode cX8_paidDays 36 = .ok (.lload_n 2, 1) := by decide +kernel
theorem dX8_paidDays_37 : decode cX8_paidDays 37 = .ok (.lreturn, 1) := by decide +kernel
theorem dX9_init_0 : decode cX9_init 0 = .ok (.aload_n 0, 1) := by decide +kernel
theorem dX9_init_1 : decode cX9_init 1 = .ok (.invokespecial 3, 3) := by decide +kernel
theorem dX9_init_4 : decode cX9_init 4 = .ok (.aload_n 0, 1) := by decide +kernel
theorem dX9_init_5 : decode cX9_init 5 = .ok (.bipush 60, 2) := by decide +kernel
theorem dX9_init_7 : decode cX9_init 7 = .ok (.newarray .byte, 2) := by decide +kernel
theorem dX9_init_9 : decode cX9_init 9 = .ok (.putfield 9, 3) := by decide +kernel
theorem dX9_init_12 : decode cX9_init 12 = .ok (.return_, 1) := by decide +kernel
set_option maxRecDepth 20000 in
theorem ggX9_canHold_X9_byteOf : GoodIn wsX9_canHold wsX9_byteOf := goodIn_r _ [4, 5] (by decide +kernel) (by decide +kernel)
set_option maxRecDepth 20000 in
theorem gX9_canHold_X9_byteOf : GoodIn wsX9_canHold (va_wsS RX9 15 yX9_byteOf wsX9_byteOf) := goodIn_app (goodIn_of _ (by decide +kernel)) ggX9_canHold_X9_byteOf
set_option maxRecDepth 20000 in
theorem ggX9_canHold_X10_within : GoodIn wsX9_canHold wsX10_within := goodIn_r _ [8] (by decide +kernel) (by decide +kernel)
set_option maxRecDepth 20000 in
theorem gX9_canHold_X10_within_n19 : GoodIn wsX9_canHold (wsX10_within) := ggX9_canHold_X10_within
theorem dX9_canHold_0 : decode cX9_canHold 0 = .ok (.iconst 0, 1) := by decide +kernel
theorem dX9_canHold_1 : decode cX9_canHold 1 = .ok (.istore_n 3, 1) := by decide +kernel
theorem dX9_canHold_2 : decode cX9_canHold 2 = .ok (.iload_n 3, 1) := by decide +kernel
theorem dX9_canHold_3 : decode cX9_canHold 3 = .ok (.iload_n 2, 1) := by decide +kernel
theorem dX9_canHold_4 : decode cX9_canHold 4 = .ok (.if_icmp .ge 26, 3) := by decide +kernel
theorem dX9_canHold_7 : decode cX9_canHold 7 = .ok (.lload_n 0, 1) := by decide +kernel
theorem dX9_canHold_8 : decode cX9_canHold 8 = .ok (.iload_n 3, 1) := by decide +kernel
theorem dX9_canHold_9 : decode cX9_canHold 9 = .ok (.invokestatic 15, 3) := by decide +kernel
theorem dX9_canHold_12 : decode cX9_canHold 12 = .ok (.bipush 32, 2) := by decide +kernel
theorem dX9_canHold_14 : decode cX9_canHold 14 = .ok (.bipush 126, 2) := by decide +kernel
theorem dX9_canHold_16 : decode cX9_canHold 16 = .ok (.invokestatic 19, 3) := by decide +kernel
theorem dX9_canHold_19 : decode cX9_canHold 19 = .ok (.ifCond .ne 5, 3) := by decide +kernel
theorem dX9_canHold_22 : decode cX9_canHold 22 = .ok (.iconst 0, 1) := by decide +kernel
theorem dX9_canHold_23 : decode cX9_canHold 23 = .ok (.ireturn, 1) := by decide +kernel
theorem dX9_canHold_24 : decode cX9_canHold 24 = .ok (.iinc 3 1, 3) := by decide +kernel
theorem dX9_canHold_27 : decode cX9_canHold 27 = .ok (.goto (-25), 3) := by decide +kernel
theorem dX9_canHold_30 : decode cX9_canHold 30 = .ok (.iconst 1, 1) := by decide +kernel
theorem dX9_canHold_31 : decode cX9_canHold 31 = .ok (.ireturn, 1) := by decide +kernel
theorem dX9_byteOf_0 : decode cX9_byteOf 0 = .ok (.lload_n 0, 1) := by decide +kernel
theorem dX9_byteOf_1 : decode cX9_byteOf 1 = .ok (.bipush 8, 2) := by decide +kernel
theorem dX9_byteOf_3 : decode cX9_byteOf 3 = .ok (.iload_n 2, 1) := by decide +kernel
theorem dX9_byteOf_4 : decode cX9_byteOf 4 = .ok (.imul, 1) := by decide +kernel
theorem dX9_byteOf_5 : decode cX9_byteOf 5 = .ok (.lushr, 1) := by decide +kernel
theorem dX9_byteOf_6 : decode cX9_byteOf 6 = .ok (.ldc2_w 23, 3) := by decide +kernel
theorem dX9_byteOf_9 : decode cX9_byteOf 9 = .ok (.land, 1) := by decide +kernel
theorem dX9_byteOf_10 : decode cX9_byteOf 10 = .ok (.l2i, 1) := by decide +kernel
theorem dX9_byteOf_11 : decode cX9_byteOf 11 = .ok (.ireturn, 1) := by decide +kernel
set_option maxRecDepth 20000 in
theorem ggX9_write_X9_byteOf : GoodIn wsX9_write wsX9_byteOf := goodIn_r _ [6, 7] (by decide +kernel) (by decide +kernel)
set_option maxRecDepth 20000 in
theorem gX9_write_X9_byteOf : GoodIn wsX9_write (va_wsS RX9 15 yX9_byteOf wsX9_byteOf) := goodIn_app (goodIn_of _ (by decide +kernel)) ggX9_write_X9_byteOf
theorem dX9_write_0 : decode cX9_write 0 = .ok (.iload_n 3, 1) := by decide +kernel
theorem dX9_write_1 : decode cX9_write 1 = .ok (.iconst 1, 1) := by decide +kernel
theorem dX9_write_2 : decode cX9_write 2 = .ok (.isub, 1) := by decide +kernel
theorem dX9_write_3 : decode cX9_write 3 = .ok (.istore 4, 2) := by decide +kernel
theorem dX9_write_5 : decode cX9_write 5 = .ok (.iload 4, 2) := by decide +kernel
theorem dX9_write_7 : decode cX9_write 7 = .ok (.ifCond .lt 35, 3) := by decide +kernel
theorem dX9_write_10 : decode cX9_write 10 = .ok (.aload_n 0, 1) := by decide +kernel
theorem dX9_write_11 : decode cX9_write 11 = .ok (.getfield 9, 3) := by decide +kernel
theorem dX9_write_14 : decode cX9_write 14 = .ok (.aload_n 0, 1) := by decide +kernel
theorem dX9_write_15 : decode cX9_write 15 = .ok (.getfield 25, 3) := by decide +kernel
theorem dX9_write_18 : decode cX9_write 18 = .ok (.lload_n 1, 1) := by decide +kernel
theorem dX9_write_19 : decode cX9_write 19 = .ok (.iload 4, 2) := by decide +kernel
theorem dX9_write_21 : decode cX9_write 21 = .ok (.invokestatic 15, 3) := by decide +kernel
theorem dX9_write_24 : decode cX9_write 24 = .ok (.i2b, 1) := by decide +kernel
theorem dX9_write_25 : decode cX9_write 25 = .ok (.bastore, 1) := by decide +kernel
theorem dX9_write_26 : decode cX9_write 26 = .ok (.aload_n 0, 1) := by decide +kernel
theorem dX9_write_27 : decode cX9_write 27 = .ok (.dup, 1) := by decide +kernel
theorem dX9_write_28 : decode cX9_write 28 = .ok (.getfield 25, 3) := by decide +kernel
theorem dX9_write_31 : decode cX9_write 31 = .ok (.iconst 1, 1) := by decide +kernel
theorem dX9_write_32 : decode cX9_write 32 = .ok (.iadd, 1) := by decide +kernel
theorem dX9_write_33 : decode cX9_write 33 = .ok (.putfield 25, 3) := by decide +kernel
theorem dX9_write_36 : decode cX9_write 36 = .ok (.iinc 4 (-1), 3) := by decide +kernel
theorem dX9_write_39 : decode cX9_write 39 = .ok (.goto (-34), 3) := by decide +kernel
theorem dX9_write_42 : decode cX9_write 42 = .ok (.return_, 1) := by decide +kernel
set_option maxRecDepth 20000 in
theorem ggX9_read_X9_sight : GoodIn wsX9_read wsX9_sight := goodIn_r _ [7, 1, 8, 9, 153, 154, 155] (by decide +kernel) (by decide +kernel)
set_option maxRecDepth 20000 in
theorem gX9_read_X9_sight : GoodIn wsX9_read (wsV RX9 32 RX9 yX9_sight wsX9_sight) := goodIn_app (goodIn_of _ (by decide +kernel)) ggX9_read_X9_sight
set_option maxRecDepth 20000 in
theorem ggX9_read_J0_indexOf_0f7a4 : GoodIn wsX9_read wsJ0_indexOf_0f7a4 := goodIn_r _ [14, 15, 16, 17, 13, 18, 19, 20, 21, 22, 23, 24, 25, 26, 27, 28, 29, 30, 31, 32, 33, 34, 35, 36, 37, 38, 39, 40, 41, 42, 43, 44, 45, 46, 47, 48, 49, 50, 51, 52, 53, 54, 55, 56, 57, 58, 59, 60, 61, 62, 63, 64, 65, 66, 67, 68, 69, 70, 71, 72, 73, 74, 75, 76, 77, 78, 79, 80, 81, 82, 83, 84, 85, 86, 87, 88, 89, 90, 91, 92, 93, 94, 95, 96, 97, 98] (by decide +kernel) (by decide +kernel)
set_option maxRecDepth 20000 in
theorem gX9_read_J0_indexOf_0f7a4 : GoodIn wsX9_read (wsV RX9 38 RJ0 yJ0_indexOf_0f7a4 wsJ0_indexOf_0f7a4) := goodIn_app (goodIn_of _ (by decide +kernel)) ggX9_read_J0_indexOf_0f7a4
set_option maxRecDepth 20000 in
theorem ggX9_read_X9_faultAt : GoodIn wsX9_read wsX9_faultAt := goodIn_r _ [101] (by decide +kernel) (by decide +kernel)
set_option maxRecDepth 20000 in
theorem gX9_read_X9_faultAt : GoodIn wsX9_read (va_wsS RX9 44 yX9_faultAt wsX9_faultAt) := goodIn_app (goodIn_of _ (by decide +kernel)) ggX9_read_X9_faultAt
set_option maxRecDepth 20000 in
theorem ggX9_read_X1_begin : GoodIn wsX9_read wsX1_begin := goodIn_r _ [106, 107, 108, 109, 156, 157, 158, 159, 160, 161] (by decide +kernel) (by decide +kernel)
set_option maxRecDepth 20000 in
theorem gX9_read_X1_begin : GoodIn wsX9_read (wsV RX9 47 RX1 yX1_begin wsX1_begin) := goodIn_app (goodIn_of _ (by decide +kernel)) ggX9_read_X1_begin
set_option maxRecDepth 20000 in
theorem ggX9_read_X9_readWorths : GoodIn wsX9_read wsX9_readWorths := goodIn_r _ [113, 9, 1, 3, 4, 5, 6, 7, 8, 114, 115, 116, 117, 118, 119, 105, 120, 121, 108, 122, 153, 154, 155, 156, 157, 158, 159, 160, 161] (by decide +kernel) (by decide +kernel)
set_option maxRecDepth 20000 in
theorem gX9_read_X9_readWorths : GoodIn wsX9_read (wsV RX9 53 RX9 yX9_readWorths wsX9_readWorths) := goodIn_app (goodIn_of _ (by decide +kernel)) ggX9_read_X9_readWorths
set_option maxRecDepth 20000 in
theorem ggX9_read_X9_readCuts : GoodIn wsX9_read wsX9_readCuts := goodIn_r _ [126, 1, 2, 3, 4, 5, 6, 7, 8, 9, 114, 115, 116, 99, 100, 101, 127, 128, 129, 130, 131, 43, 40, 44, 132, 133, 134, 105, 135, 136, 137, 138, 139, 108, 140, 141, 142, 143, 107, 144, 145, 146, 147, 109, 148, 149, 150, 151, 152, 153, 154, 155, 156, 157, 158, 159, 160, 161] (by decide +kernel) (by decide +kernel)
set_option maxRecDepth 20000 in
theorem gX9_read_X9_readCuts : GoodIn wsX9_read (wsV RX9 60 RX9 yX9_readCuts wsX9_readCuts) := goodIn_app (goodIn_of _ (by decide +kernel)) ggX9_read_X9_readCuts
theorem dX9_read_0 : decode cX9_read 0 = .ok (.aload_n 0, 1) := by decide +kernel
theorem dX9_read_1 : decode cX9_read 1 = .ok (.iconst 0, 1) := by decide +kernel
theorem dX9_read_2 : decode cX9_read 2 = .ok (.putfield 29, 3) := by decide +kernel
theorem dX9_read_5 : decode cX9_read 5 = .ok (.aload_n 0, 1) := by decide +kernel
theorem dX9_read_6 : decode cX9_read 6 = .ok (.invokevirtual 32, 3) := by decide +kernel
theorem dX9_read_9 : decode cX9_read 9 = .ok (.istore_n 2, 1) := by decide +kernel
theorem dX9_read_10 : decode cX9_read 10 = .ok (.iload_n 2, 1) := by decide +kernel
theorem dX9_read_11 : decode cX9_read 11 = .ok (.iconst (-1), 1) := by decide +kernel
theorem dX9_read_12 : decode cX9_read 12 = .ok (.if_icmp .ne 7, 3) := by decide +kernel
theorem dX9_read_15 : decode cX9_read 15 = .ok (.iconst (-1), 1) := by decide +kernel
theorem dX9_read_16 : decode cX9_read 16 = .ok (.goto 10, 3) := by decide +kernel
theorem dX9_read_19 : decode cX9_read 19 = .ok (.ldc 36, 2) := by decide +kernel
theorem dX9_read_21 : decode cX9_read 21 = .ok (.iload_n 2, 1) := by decide +kernel
theorem dX9_read_22 : decode cX9_read 22 = .ok (.i2c, 1) := by decide +kernel
theorem dX9_read_23 : decode cX9_read 23 = .ok (.invokevirtual 38, 3) := by decide +kernel
theorem dX9_read_26 : decode cX9_read 26 = .ok (.istore_n 3, 1) := by decide +kernel
theorem dX9_read_27 : decode cX9_read 27 = .ok (.iload_n 3, 1) := by decide +kernel
theorem dX9_read_28 : decode cX9_read 28 = .ok (.ifCond .ge 11, 3) := by decide +kernel
theorem dX9_read_31 : decode cX9_read 31 = .ok (.aload_n 0, 1) := by decide +kernel
theorem dX9_read_32 : decode cX9_read 32 = .ok (.getfield 29, 3) := by decide +kernel
theorem dX9_read_35 : decode cX9_read 35 = .ok (.invokestatic 44, 3) := by decide +kernel
theorem dX9_read_38 : decode cX9_read 38 = .ok (.ireturn, 1) := by decide +kernel
theorem dX9_read_39 : decode cX9_read 39 = .ok (.aload_n 0, 1) := by decide +kernel
theorem dX9_read_40 : decode cX9_read 40 = .ok (.dup, 1) := by decide +kernel
theorem dX9_read_41 : decode cX9_read 41 = .ok (.getfield 29, 3) := by decide +kernel
theorem dX9_read_44 : decode cX9_read 44 = .ok (.iconst 1, 1) := by decide +kernel
theorem dX9_read_45 : decode cX9_read 45 = .ok (.iadd, 1) := by decide +kernel
theorem dX9_read_46 : decode cX9_read 46 = .ok (.putfield 29, 3) := by decide +kernel
theorem dX9_read_49 : decode cX9_read 49 = .ok (.aload_n 1, 1) := by decide +kernel
theorem dX9_read_50 : decode cX9_read 50 = .ok (.iload_n 3, 1) := by decide +kernel
theorem dX9_read_51 : decode cX9_read 51 = .ok (.invokevirtual 47, 3) := by decide +kernel
theorem dX9_read_54 : decode cX9_read 54 = .ok (.aload_n 0, 1) := by decide +kernel
theorem dX9_read_55 : decode cX9_read 55 = .ok (.aload_n 1, 1) := by decide +kernel
theorem dX9_read_56 : decode cX9_read 56 = .ok (.invokevirtual 53, 3) := by decide +kernel
theorem dX9_read_59 : decode cX9_read 59 = .ok (.aload_n 0, 1) := by decide +kernel
theorem dX9_read_60 : decode cX9_read 60 = .ok (.invokevirtual 32, 3) := by decide +kernel
theorem dX9_read_63 : decode cX9_read 63 = .ok (.istore_n 2, 1) := by decide +kernel
theorem dX9_read_64 : decode cX9_read 64 = .ok (.aload_n 1, 1) := by decide +kernel
theorem dX9_read_65 : decode cX9_read 65 = .ok (.getfield 57, 3) := by decide +kernel
theorem dX9_read_68 : decode cX9_read 68 = .ok (.ifCond .le 13, 3) := by decide +kernel
theorem dX9_read_71 : decode cX9_read 71 = .ok (.iload_n 2, 1) := by decide +kernel
theorem dX9_read_72 : decode cX9_read 72 = .ok (.iconst (-1), 1) := by decide +kernel
theorem dX9_read_73 : decode cX9_read 73 = .ok (.if_icmp .ne 8, 3) := by decide +kernel
theorem dX9_read_76 : decode cX9_read 76 = .ok (.aload_n 1, 1) := by decide +kernel
theorem dX9_read_77 : decode cX9_read 77 = .ok (.getfield 57, 3) := by decide +kernel
theorem dX9_read_80 : decode cX9_read 80 = .ok (.ireturn, 1) := by decide +kernel
theorem dX9_read_81 : decode cX9_read 81 = .ok (.aload_n 1, 1) := by decide +kernel
theorem dX9_read_82 : decode cX9_read 82 = .ok (.getfield 57, 3) := by decide +kernel
theorem dX9_read_85 : decode cX9_read 85 = .ok (.ifCond .eq 9, 3) := by decide +kernel
theorem dX9_read_88 : decode cX9_read 88 = .ok (.iload_n 2, 1) := by decide +kernel
theorem dX9_read_89 : decode cX9_read 89 = .ok (.bipush 47, 2) := by decide +kernel
theorem dX9_read_91 : decode cX9_read 91 = .ok (.if_icmp .eq 11, 3) := by decide +kernel
theorem dX9_read_94 : decode cX9_read 94 = .ok (.aload_n 0, 1) := by decide +kernel
theorem dX9_read_95 : decode cX9_read 95 = .ok (.getfield 29, 3) := by decide +kernel
theorem dX9_read_98 : decode cX9_read 98 = .ok (.invokestatic 44, 3) := by decide +kernel
theorem dX9_read_101 : decode cX9_read 101 = .ok (.ireturn, 1) := by decide +kernel
theorem dX9_read_102 : decode cX9_read 102 = .ok (.aload_n 0, 1) := by decide +kernel
theorem dX9_read_103 : decode cX9_read 103 = .ok (.dup, 1) := by decide +kernel
theorem dX9_read_104 : decode cX9_read 104 = .ok (.getfield 29, 3) := by decide +kernel
theorem dX9_read_107 : decode cX9_read 107 = .ok (.iconst 1, 1) := by decide +kernel
theorem dX9_read_108 : decode cX9_read 108 = .ok (.iadd, 1) := by decide +kernel
theorem dX9_read_109 : decode cX9_read 109 = .ok (.putfield 29, 3) := by decide +kernel
theorem dX9_read_112 : decode cX9_read 112 = .ok (.aload_n 0, 1) := by decide +kernel
theorem dX9_read_113 : decode cX9_read 113 = .ok (.aload_n 1, 1) := by decide +kernel
theorem dX9_read_114 : decode cX9_read 114 = .ok (.invokevirtual 60, 3) := by decide +kernel
theorem dX9_read_117 : decode cX9_read 117 = .ok (.ireturn, 1) := by decide +kernel
set_option maxRecDepth 20000 in
theorem ggX9_readWorths_X9_sight : GoodIn wsX9_readWorths wsX9_sight := goodIn_r _ [7, 2, 8, 1, 20, 21, 22] (by decide +kernel) (by decide +kernel)
set_option maxRecDepth 20000 in
theorem gX9_readWorths_X9_sight : GoodIn wsX9_readWorths (wsV RX9 32 RX9 yX9_sight wsX9_sight) := goodIn_app (goodIn_of _ (by decide +kernel)) ggX9_readWorths_X9_sight
set_option maxRecDepth 20000 in
theorem ggX9_readWorths_X10_within : GoodIn wsX9_readWorths wsX10_within := goodIn_r _ [11] (by decide +kernel) (by decide +kernel)
set_option maxRecDepth 20000 in
theorem gX9_readWorths_X10_within_n19 : GoodIn wsX9_readWorths (wsX10_within) := ggX9_readWorths_X10_within
set_option maxRecDepth 20000 in
theorem ggX9_readWorths_X1_append : GoodIn wsX9_readWorths wsX1_append := goodIn_r _ [16, 17, 18, 19, 23, 24, 25, 26, 27, 28] (by decide +kernel) (by decide +kernel)
set_option maxRecDepth 20000 in
theorem gX9_readWorths_X1_append : GoodIn wsX9_readWorths (wsV RX9 64 RX1 yX1_append wsX1_append) := goodIn_app (goodIn_of _ (by decide +kernel)) ggX9_readWorths_X1_append
theorem dX9_readWorths_0 : decode cX9_readWorths 0 = .ok (.iconst 0, 1) := by decide +kernel
theorem dX9_readWorths_1 : decode cX9_readWorths 1 = .ok (.istore_n 2, 1) := by decide +kernel
theorem dX9_readWorths_2 : decode cX9_readWorths 2 = .ok (.iload_n 2, 1) := by decide +kernel
theorem dX9_readWorths_3 : decode cX9_readWorths 3 = .ok (.bipush 24, 2) := by decide +kernel
theorem dX9_readWorths_5 : decode cX9_readWorths 5 = .ok (.if_icmp .ge 49, 3) := by decide +kernel
theorem dX9_readWorths_8 : decode cX9_readWorths 8 = .ok (.aload_n 0, 1) := by decide +kernel
theorem dX9_readWorths_9 : decode cX9_readWorths 9 = .ok (.invokevirtual 32, 3) := by decide +kernel
theorem dX9_readWorths_12 : decode cX9_readWorths 12 = .ok (.bipush 49, 2) := by decide +kernel
theorem dX9_readWorths_14 : decode cX9_readWorths 14 = .ok (.bipush 57, 2) := by decide +kernel
theorem dX9_readWorths_16 : decode cX9_readWorths 16 = .ok (.invokestatic 19, 3) := by decide +kernel
theorem dX9_readWorths_19 : decode cX9_readWorths 19 = .ok (.ifCond .eq 35, 3) := by decide +kernel
theorem dX9_readWorths_22 : decode cX9_readWorths 22 = .ok (.aload_n 1, 1) := by decide +kernel
theorem dX9_readWorths_23 : decode cX9_readWorths 23 = .ok (.aload_n 0, 1) := by decide +kernel
theorem dX9_readWorths_24 : decode cX9_readWorths 24 = .ok (.getfield 9, 3) := by decide +kernel
theorem dX9_readWorths_27 : decode cX9_readWorths 27 = .ok (.aload_n 0, 1) := by decide +kernel
theorem dX9_readWorths_28 : decode cX9_readWorths 28 = .ok (.getfield 29, 3) := by decide +kernel
theorem dX9_readWorths_31 : decode cX9_readWorths 31 = .ok (.baload, 1) := by decide +kernel
theorem dX9_readWorths_32 : decode cX9_readWorths 32 = .ok (.bipush 48, 2) := by decide +kernel
theorem dX9_readWorths_34 : decode cX9_readWorths 34 = .ok (.isub, 1) := by decide +kernel
theorem dX9_readWorths_35 : decode cX9_readWorths 35 = .ok (.invokevirtual 64, 3) := by decide +kernel
theorem dX9_readWorths_38 : decode cX9_readWorths 38 = .ok (.aload_n 0, 1) := by decide +kernel
theorem dX9_readWorths_39 : decode cX9_readWorths 39 = .ok (.dup, 1) := by decide +kernel
theorem dX9_readWorths_40 : decode cX9_readWorths 40 = .ok (.getfield 29, 3) := by decide +kernel
theorem dX9_readWorths_43 : decode cX9_readWorths 43 = .ok (.iconst 1, 1) := by decide +kernel
theorem dX9_readWorths_44 : decode cX9_readWorths 44 = .ok (.iadd, 1) := by decide +kernel
theorem dX9_readWorths_45 : decode cX9_readWorths 45 = .ok (.putfield 29, 3) := by decide +kernel
theorem dX9_readWorths_48 : decode cX9_readWorths 48 = .ok (.iinc 2 1, 3) := by decide +kernel
theorem dX9_readWorths_51 : decode cX9_readWorths 51 = .ok (.goto (-49), 3) := by decide +kernel
theorem dX9_readWorths_54 : decode cX9_readWorths 54 = .ok (.return_, 1) := by decide +kernel
set_option maxRecDepth 20000 in
theorem ggX9_readCuts_X9_sight : GoodIn wsX9_readCuts wsX9_sight := goodIn_r _ [7, 1, 8, 9, 49, 50, 51] (by decide +kernel) (by decide +kernel)
set_option maxRecDepth 20000 in
theorem gX9_readCuts_X9_sight : GoodIn wsX9_readCuts (wsV RX9 32 RX9 yX9_sight wsX9_sight) := goodIn_app (goodIn_of _ (by decide +kernel)) ggX9_readCuts_X9_sight
set_option maxRecDepth 20000 in
theorem ggX9_readCuts_X10_within : GoodIn wsX9_readCuts wsX10_within := goodIn_r _ [12] (by decide +kernel) (by decide +kernel)
set_option maxRecDepth 20000 in
theorem gX9_readCuts_X10_within_n19 : GoodIn wsX9_readCuts (wsX10_within) := ggX9_readCuts_X10_within
set_option maxRecDepth 20000 in
theorem ggX9_readCuts_X9_faultAt : GoodIn wsX9_readCuts wsX9_faultAt := goodIn_r _ [15] (by decide +kernel) (by decide +kernel)
set_option maxRecDepth 20000 in
theorem gX9_readCuts_X9_faultAt : GoodIn wsX9_readCuts (va_wsS RX9 44 yX9_faultAt wsX9_faultAt) := goodIn_app (goodIn_of _ (by decide +kernel)) ggX9_readCuts_X9_faultAt
set_option maxRecDepth 20000 in
theorem ggX9_readCuts_X9_readNumber : GoodIn wsX9_readCuts wsX9_readNumber := goodIn_r _ [19, 1, 8, 9, 20, 21, 22, 23, 10, 11, 12, 49, 50, 51] (by decide +kernel) (by decide +kernel)
set_option maxRecDepth 20000 in
theorem gX9_readCuts_X9_readNumber : GoodIn wsX9_readCuts (wsV RX9 67 RX9 yX9_readNumber wsX9_readNumber) := goodIn_app (goodIn_of _ (by decide +kernel)) ggX9_readCuts_X9_readNumber
set_option maxRecDepth 20000 in
theorem ggX9_readCuts_X1_hasNotch : GoodIn wsX9_readCuts wsX1_hasNotch := goodIn_r _ [28, 29, 30, 31, 27, 32, 33, 34, 35, 36, 37, 38, 52, 53, 54, 55, 56, 57] (by decide +kernel) (by decide +kernel)
set_option maxRecDepth 20000 in
theorem gX9_readCuts_X1_hasNotch : GoodIn wsX9_readCuts (wsV RX9 70 RX1 yX1_hasNotch wsX1_hasNotch) := goodIn_app (goodIn_of _ (by decide +kernel)) ggX9_readCuts_X1_hasNotch
set_option maxRecDepth 20000 in
theorem ggX9_readCuts_X1_placeOf : GoodIn wsX9_readCuts wsX1_placeOf := goodIn_r _ [42, 43, 44, 52, 53, 54, 55, 56, 57] (by decide +kernel) (by decide +kernel)
set_option maxRecDepth 20000 in
theorem gX9_readCuts_X1_placeOf : GoodIn wsX9_readCuts (wsV RX9 74 RX1 yX1_placeOf wsX1_placeOf) := goodIn_app (goodIn_of _ (by decide +kernel)) ggX9_readCuts_X1_placeOf
set_option maxRecDepth 20000 in
theorem ggX9_readCuts_X1_open : GoodIn wsX9_readCuts wsX1_open := goodIn_r _ [48, 43, 44, 52, 53, 54, 55, 56, 57] (by decide +kernel) (by decide +kernel)
set_option maxRecDepth 20000 in
theorem gX9_readCuts_X1_open : GoodIn wsX9_readCuts (wsV RX9 77 RX1 yX1_open wsX1_open) := goodIn_app (goodIn_of _ (by decide +kernel)) ggX9_readCuts_X1_open
theorem dX9_readCuts_0 : decode cX9_readCuts 0 = .ok (.iconst 1, 1) := by decide +kernel
theorem dX9_readCuts_1 : decode cX9_readCuts 1 = .ok (.istore_n 2, 1) := by decide +kernel
theorem dX9_readCuts_2 : decode cX9_readCuts 2 = .ok (.iload_n 2, 1) := by decide +kernel
theorem dX9_readCuts_3 : decode cX9_readCuts 3 = .ok (.iconst 5, 1) := by decide +kernel
theorem dX9_readCuts_4 : decode cX9_readCuts 4 = .ok (.if_icmp .gt 118, 3) := by decide +kernel
theorem dX9_readCuts_7 : decode cX9_readCuts 7 = .ok (.aload_n 0, 1) := by decide +kernel
theorem dX9_readCuts_8 : decode cX9_readCuts 8 = .ok (.invokevirtual 32, 3) := by decide +kernel
theorem dX9_readCuts_11 : decode cX9_readCuts 11 = .ok (.bipush 48, 2) := by decide +kernel
theorem dX9_readCuts_13 : decode cX9_readCuts 13 = .ok (.bipush 57, 2) := by decide +kernel
theorem dX9_readCuts_15 : decode cX9_readCuts 15 = .ok (.invokestatic 19, 3) := by decide +kernel
theorem dX9_readCuts_18 : decode cX9_readCuts 18 = .ok (.ifCond .ne 11, 3) := by decide +kernel
theorem dX9_readCuts_21 : decode cX9_readCuts 21 = .ok (.aload_n 0, 1) := by decide +kernel
theorem dX9_readCuts_22 : decode cX9_readCuts 22 = .ok (.getfield 29, 3) := by decide +kernel
theorem dX9_readCuts_25 : decode cX9_readCuts 25 = .ok (.invokestatic 44, 3) := by decide +kernel
theorem dX9_readCuts_28 : decode cX9_readCuts 28 = .ok (.ireturn, 1) := by decide +kernel
theorem dX9_readCuts_29 : decode cX9_readCuts 29 = .ok (.aload_n 0, 1) := by decide +kernel
theorem dX9_readCuts_30 : decode cX9_readCuts 30 = .ok (.getfield 29, 3) := by decide +kernel
theorem dX9_readCuts_33 : decode cX9_readCuts 33 = .ok (.istore_n 3, 1) := by decide +kernel
theorem dX9_readCuts_34 : decode cX9_readCuts 34 = .ok (.aload_n 0, 1) := by decide +kernel
theorem dX9_readCuts_35 : decode cX9_readCuts 35 = .ok (.invokevirtual 67, 3) := by decide +kernel
theorem dX9_readCuts_38 : decode cX9_readCuts 38 = .ok (.istore 4, 2) := by decide +kernel
theorem dX9_readCuts_40 : decode cX9_readCuts 40 = .ok (.aload_n 1, 1) := by decide +kernel
theorem dX9_readCuts_41 : decode cX9_readCuts 41 = .ok (.iload 4, 2) := by decide +kernel
theorem dX9_readCuts_43 : decode cX9_readCuts 43 = .ok (.invokevirtual 70, 3) := by decide +kernel
theorem dX9_readCuts_46 : decode cX9_readCuts 46 = .ok (.ifCond .eq 12, 3) := by decide +kernel
theorem dX9_readCuts_49 : decode cX9_readCuts 49 = .ok (.aload_n 1, 1) := by decide +kernel
theorem dX9_readCuts_50 : decode cX9_readCuts 50 = .ok (.iload 4, 2) := by decide +kernel
theorem dX9_readCuts_52 : decode cX9_readCuts 52 = .ok (.invokevirtual 74, 3) := by decide +kernel
theorem dX9_readCuts_55 : decode cX9_readCuts 55 = .ok (.ifCond .lt 8, 3) := by decide +kernel
theorem dX9_readCuts_58 : decode cX9_readCuts 58 = .ok (.iload_n 3, 1) := by decide +kernel
theorem dX9_readCuts_59 : decode cX9_readCuts 59 = .ok (.invokestatic 44, 3) := by decide +kernel
theorem dX9_readCuts_62 : decode cX9_readCuts 62 = .ok (.ireturn, 1) := by decide +kernel
theorem dX9_readCuts_63 : decode cX9_readCuts 63 = .ok (.aload_n 1, 1) := by decide +kernel
theorem dX9_readCuts_64 : decode cX9_readCuts 64 = .ok (.iload 4, 2) := by decide +kernel
theorem dX9_readCuts_66 : decode cX9_readCuts 66 = .ok (.invokevirtual 77, 3) := by decide +kernel
theorem dX9_readCuts_69 : decode cX9_readCuts 69 = .ok (.aload_n 0, 1) := by decide +kernel
theorem dX9_readCuts_70 : decode cX9_readCuts 70 = .ok (.invokevirtual 32, 3) := by decide +kernel
theorem dX9_readCuts_73 : decode cX9_readCuts 73 = .ok (.istore 5, 2) := by decide +kernel
theorem dX9_readCuts_75 : decode cX9_readCuts 75 = .ok (.iload 5, 2) := by decide +kernel
theorem dX9_readCuts_77 : decode cX9_readCuts 77 = .ok (.iconst (-1), 1) := by decide +kernel
theorem dX9_readCuts_78 : decode cX9_readCuts 78 = .ok (.if_icmp .ne 8, 3) := by decide +kernel
theorem dX9_readCuts_81 : decode cX9_readCuts 81 = .ok (.aload_n 1, 1) := by decide +kernel
theorem dX9_readCuts_82 : decode cX9_readCuts 82 = .ok (.getfield 57, 3) := by decide +kernel
theorem dX9_readCuts_85 : decode cX9_readCuts 85 = .ok (.ireturn, 1) := by decide +kernel
theorem dX9_readCuts_86 : decode cX9_readCuts 86 = .ok (.iload 5, 2) := by decide +kernel
theorem dX9_readCuts_88 : decode cX9_readCuts 88 = .ok (.bipush 44, 2) := by decide +kernel
theorem dX9_readCuts_90 : decode cX9_readCuts 90 = .ok (.if_icmp .ne 8, 3) := by decide +kernel
theorem dX9_readCuts_93 : decode cX9_readCuts 93 = .ok (.iload_n 2, 1) := by decide +kernel
theorem dX9_readCuts_94 : decode cX9_readCuts 94 = .ok (.iconst 5, 1) := by decide +kernel
theorem dX9_readCuts_95 : decode cX9_readCuts 95 = .ok (.if_icmp .ne 11, 3) := by decide +kernel
theorem dX9_readCuts_98 : decode cX9_readCuts 98 = .ok (.aload_n 0, 1) := by decide +kernel
theorem dX9_readCuts_99 : decode cX9_readCuts 99 = .ok (.getfield 29, 3) := by decide +kernel
theorem dX9_readCuts_102 : decode cX9_readCuts 102 = .ok (.invokestatic 44, 3) := by decide +kernel
theorem dX9_readCuts_105 : decode cX9_readCuts 105 = .ok (.ireturn, 1) := by decide +kernel
theorem dX9_readCuts_106 : decode cX9_readCuts 106 = .ok (.aload_n 0, 1) := by decide +kernel
theorem dX9_readCuts_107 : decode cX9_readCuts 107 = .ok (.dup, 1) := by decide +kernel
theorem dX9_readCuts_108 : decode cX9_readCuts 108 = .ok (.getfield 29, 3) := by decide +kernel
theorem dX9_readCuts_111 : decode cX9_readCuts 111 = .ok (.iconst 1, 1) := by decide +kernel
theorem dX9_readCuts_112 : decode cX9_readCuts 112 = .ok (.iadd, 1) := by decide +kernel
theorem dX9_readCuts_113 : decode cX9_readCuts 113 = .ok (.putfield 29, 3) := by decide +kernel
theorem dX9_readCuts_116 : decode cX9_readCuts 116 = .ok (.iinc 2 1, 3) := by decide +kernel
theorem dX9_readCuts_119 : decode cX9_readCuts 119 = .ok (.goto (-117), 3) := by decide +kernel
theorem dX9_readCuts_122 : decode cX9_readCuts 122 = .ok (.aload_n 0, 1) := by decide +kernel
theorem dX9_readCuts_123 : decode cX9_readCuts 123 = .ok (.getfield 29, 3) := by decide +kernel
theorem dX9_readCuts_126 : decode cX9_readCuts 126 = .ok (.invokestatic 44, 3) := by decide +kernel
theorem dX9_readCuts_129 : decode cX9_readCuts 129 = .ok (.ireturn, 1) := by decide +kernel
set_option maxRecDepth 20000 in
theorem ggX9_readNumber_X10_within : GoodIn wsX9_readNumber wsX10_within := goodIn_r _ [10] (by decide +kernel) (by decide +kernel)
set_option maxRecDepth 20000 in
theorem gX9_readNumber_X10_within_n19 : GoodIn wsX9_readNumber (wsX10_within) := ggX9_readNumber_X10_within
theorem dX9_readNumber_0 : decode cX9_readNumber 0 = .ok (.iconst 0, 1) := by decide +kernel
theorem dX9_readNumber_1 : decode cX9_readNumber 1 = .ok (.istore_n 1, 1) := by decide +kernel
theorem dX9_readNumber_2 : decode cX9_readNumber 2 = .ok (.aload_n 0, 1) := by decide +kernel
theorem dX9_readNumber_3 : decode cX9_readNumber 3 = .ok (.getfield 29, 3) := by decide +kernel
theorem dX9_readNumber_6 : decode cX9_readNumber 6 = .ok (.aload_n 0, 1) := by decide +kernel
theorem dX9_readNumber_7 : decode cX9_readNumber 7 = .ok (.getfield 25, 3) := by decide +kernel
theorem dX9_readNumber_10 : decode cX9_readNumber 10 = .ok (.if_icmp .ge 58, 3) := by decide +kernel
theorem dX9_readNumber_13 : decode cX9_readNumber 13 = .ok (.aload_n 0, 1) := by decide +kernel
theorem dX9_readNumber_14 : decode cX9_readNumber 14 = .ok (.getfield 9, 3) := by decide +kernel
theorem dX9_readNumber_17 : decode cX9_readNumber 17 = .ok (.aload_n 0, 1) := by decide +kernel
theorem dX9_readNumber_18 : decode cX9_readNumber 18 = .ok (.getfield 29, 3) := by decide +kernel
theorem dX9_readNumber_21 : decode cX9_readNumber 21 = .ok (.baload, 1) := by decide +kernel
theorem dX9_readNumber_22 : decode cX9_readNumber 22 = .ok (.bipush 48, 2) := by decide +kernel
theorem dX9_readNumber_24 : decode cX9_readNumber 24 = .ok (.bipush 57, 2) := by decide +kernel
theorem dX9_readNumber_26 : decode cX9_readNumber 26 = .ok (.invokestatic 19, 3) := by decide +kernel
theorem dX9_readNumber_29 : decode cX9_readNumber 29 = .ok (.ifCond .eq 39, 3) := by decide +kernel
theorem dX9_readNumber_32 : decode cX9_readNumber 32 = .ok (.iload_n 1, 1) := by decide +kernel
theorem dX9_readNumber_33 : decode cX9_readNumber 33 = .ok (.bipush 10, 2) := by decide +kernel
theorem dX9_readNumber_35 : decode cX9_readNumber 35 = .ok (.imul, 1) := by decide +kernel
theorem dX9_readNumber_36 : decode cX9_readNumber 36 = .ok (.aload_n 0, 1) := by decide +kernel
theorem dX9_readNumber_37 : decode cX9_readNumber 37 = .ok (.getfield 9, 3) := by decide +kernel
theorem dX9_readNumber_40 : decode cX9_readNumber 40 = .ok (.aload_n 0, 1) := by decide +kernel
theorem dX9_readNumber_41 : decode cX9_readNumber 41 = .ok (.getfield 29, 3) := by decide +kernel
theorem dX9_readNumber_44 : decode cX9_readNumber 44 = .ok (.baload, 1) := by decide +kernel
theorem dX9_readNumber_45 : decode cX9_readNumber 45 = .ok (.iadd, 1) := by decide +kernel
theorem dX9_readNumber_46 : decode cX9_readNumber 46 = .ok (.bipush 48, 2) := by decide +kernel
theorem dX9_readNumber_48 : decode cX9_readNumber 48 = .ok (.isub, 1) := by decide +kernel
theorem dX9_readNumber_49 : decode cX9_readNumber 49 = .ok (.bipush 24, 2) := by decide +kernel
theorem dX9_readNumber_51 : decode cX9_readNumber 51 = .ok (.invokestatic 80, 3) := by decide +kernel
theorem dX9_readNumber_54 : decode cX9_readNumber 54 = .ok (.istore_n 1, 1) := by decide +kernel
theorem dX9_readNumber_55 : decode cX9_readNumber 55 = .ok (.aload_n 0, 1) := by decide +kernel
theorem dX9_readNumber_56 : decode cX9_readNumber 56 = .ok (.dup, 1) := by decide +kernel
theorem dX9_readNumber_57 : decode cX9_readNumber 57 = .ok (.getfield 29, 3) := by decide +kernel
theorem dX9_readNumber_60 : decode cX9_readNumber 60 = .ok (.iconst 1, 1) := by decide +kernel
theorem dX9_readNumber_61 : decode cX9_readNumber 61 = .ok (.iadd, 1) := by decide +kernel
theorem dX9_readNumber_62 : decode cX9_readNumber 62 = .ok (.putfield 29, 3) := by decide +kernel
theorem dX9_readNumber_65 : decode cX9_readNumber 65 = .ok (.goto (-63), 3) := by decide +kernel
theorem dX9_readNumber_68 : decode cX9_readNumber 68 = .ok (.iload_n 1, 1) := by decide +kernel
theorem dX9_readNumber_69 : decode cX9_readNumber 69 = .ok (.ireturn, 1) := by decide +kernel
theorem dX9_sight_0 : decode cX9_sight 0 = .ok (.aload_n 0, 1) := by decide +kernel
theorem dX9_sight_1 : decode cX9_sight 1 = .ok (.getfield 29, 3) := by decide +kernel
theorem dX9_sight_4 : decode cX9_sight 4 = .ok (.aload_n 0, 1) := by decide +kernel
theorem dX9_sight_5 : decode cX9_sight 5 = .ok (.getfield 25, 3) := by decide +kernel
theorem dX9_sight_8 : decode cX9_sight 8 = .ok (.if_icmp .ge 30, 3) := by decide +kernel
theorem dX9_sight_11 : decode cX9_sight 11 = .ok (.aload_n 0, 1) := by decide +kernel
theorem dX9_sight_12 : decode cX9_sight 12 = .ok (.getfield 9, 3) := by decide +kernel
theorem dX9_sight_15 : decode cX9_sight 15 = .ok (.aload_n 0, 1) := by decide +kernel
theorem dX9_sight_16 : decode cX9_sight 16 = .ok (.getfield 29, 3) := by decide +kernel
theorem dX9_sight_19 : decode cX9_sight 19 = .ok (.baload, 1) := by decide +kernel
theorem dX9_sight_20 : decode cX9_sight 20 = .ok (.bipush 32, 2) := by decide +kernel
theorem dX9_sight_22 : decode cX9_sight 22 = .ok (.if_icmp .ne 16, 3) := by decide +kernel
theorem dX9_sight_25 : decode cX9_sight 25 = .ok (.aload_n 0, 1) := by decide +kernel
theorem dX9_sight_26 : decode cX9_sight 26 = .ok (.dup, 1) := by decide +kernel
theorem dX9_sight_27 : decode cX9_sight 27 = .ok (.getfield 29, 3) := by decide +kernel
theorem dX9_sight_30 : decode cX9_sight 30 = .ok (.iconst 1, 1) := by decide +kernel
theorem dX9_sight_31 : decode cX9_sight 31 = .ok (.iadd, 1) := by decide +kernel
theorem dX9_sight_32 : decode cX9_sight 32 = .ok (.putfield 29, 3) := by decide +kernel
theorem dX9_sight_35 : decode cX9_sight 35 = .ok (.goto (-35), 3) := by decide +kernel
theorem dX9_sight_38 : decode cX9_sight 38 = .ok (.aload_n 0, 1) := by decide +kernel
theorem dX9_sight_39 : decode cX9_sight 39 = .ok (.getfield 29, 3) := by decide +kernel
theorem dX9_sight_42 : decode cX9_sight 42 = .ok (.aload_n 0, 1) := by decide +kernel
theorem dX9_sight_43 : decode cX9_sight 43 = .ok (.getfield 25, 3) := by decide +kernel
theorem dX9_sight_46 : decode cX9_sight 46 = .ok (.if_icmp .ge 15, 3) := by decide +kernel
theorem dX9_sight_49 : decode cX9_sight 49 = .ok (.aload_n 0, 1) := by decide +kernel
theorem dX9_sight_50 : decode cX9_sight 50 = .ok (.getfield 9, 3) := by decide +kernel
theorem dX9_sight_53 : decode cX9_sight 53 = .ok (.aload_n 0, 1) := by decide +kernel
theorem dX9_sight_54 : decode cX9_sight 54 = .ok (.getfield 29, 3) := by decide +kernel
theorem dX9_sight_57 : decode cX9_sight 57 = .ok (.baload, 1) := by decide +kernel
theorem dX9_sight_58 : decode cX9_sight 58 = .ok (.goto 4, 3) := by decide +kernel
theorem dX9_sight_61 : decode cX9_sight 61 = .ok (.iconst (-1), 1) := by decide +kernel
theorem dX9_sight_62 : decode cX9_sight 62 = .ok (.ireturn, 1) := by decide +kernel
theorem dX9_faultAt_0 : decode cX9_faultAt 0 = .ok (.bipush (-20), 2) := by decide +kernel
theorem dX9_faultAt_2 : decode cX9_faultAt 2 = .ok (.iload_n 0, 1) := by decide +kernel
theorem dX9_faultAt_3 : decode cX9_faultAt 3 = .ok (.isub, 1) := by decide +kernel
theorem dX9_faultAt_4 : decode cX9_faultAt 4 = .ok (.ireturn, 1) := by decide +kernel
set_option maxRecDepth 20000 in
theorem ggX10_init_X1_init : GoodIn wsX10_init wsX1_init := goodIn_r _ [52, 53, 2, 3, 45, 54, 55, 56, 57, 58, 59, 60, 6, 61, 62, 121, 122, 123, 124, 125, 126] (by decide +kernel) (by decide +kernel)
set_option maxRecDepth 20000 in
theorem gX10_init_X1_init : GoodIn wsX10_init (wsX1_init) := ggX10_init_X1_init
set_option maxRecDepth 20000 in
theorem ggX10_init_X3_init : GoodIn wsX10_init wsX3_init := goodIn_r _ [65, 66, 2, 3, 45, 67, 68, 69, 70, 71, 10, 72, 73, 74, 143, 144, 145, 146] (by decide +kernel) (by decide +kernel)
set_option maxRecDepth 20000 in
theorem gX10_init_X3_init : GoodIn wsX10_init (wsX3_init) := ggX10_init_X3_init
set_option maxRecDepth 20000 in
theorem ggX10_init_X9_init : GoodIn wsX10_init wsX9_init := goodIn_r _ [76, 77, 2, 3, 78, 79, 147, 148, 149] (by decide +kernel) (by decide +kernel)
set_option maxRecDepth 20000 in
theorem gX10_init_X9_init_n31 : GoodIn wsX10_init (wsX9_init) := ggX10_init_X9_init
set_option maxRecDepth 20000 in
theorem ggX10_init_X5_init : GoodIn wsX10_init wsX5_init := goodIn_r _ [81, 82, 2, 3, 45, 83, 84, 85, 150, 151, 152, 153] (by decide +kernel) (by decide +kernel)
set_option maxRecDepth 20000 in
theorem gX10_init_X5_init_n41 : GoodIn wsX10_init (wsX5_init) := ggX10_init_X5_init
set_option maxRecDepth 20000 in
theorem ggX10_init_X8_init : GoodIn wsX10_init wsX8_init := goodIn_r _ [87, 88, 2, 3, 89, 90, 154, 155] (by decide +kernel) (by decide +kernel)
set_option maxRecDepth 20000 in
theorem gX10_init_X8_init_n48 : GoodIn wsX10_init (wsX8_init) := ggX10_init_X8_init
set_option maxRecDepth 20000 in
theorem ggX10_init_X6_init : GoodIn wsX10_init wsX6_init := goodIn_r _ [92, 93, 2, 3, 45, 94, 95, 96, 97, 98, 156, 157, 158, 159, 160, 161, 162, 163] (by decide +kernel) (by decide +kernel)
set_option maxRecDepth 20000 in
theorem gX10_init_X6_init_n55 : GoodIn wsX10_init (wsX6_init) := ggX10_init_X6_init
set_option maxRecDepth 20000 in
theorem ggX10_init_X2_init : GoodIn wsX10_init wsX2_init := goodIn_r _ [100, 101, 2, 3, 45, 102, 164, 165, 166] (by decide +kernel) (by decide +kernel)
set_option maxRecDepth 20000 in
theorem gX10_init_X2_init_n62 : GoodIn wsX10_init (wsX2_init) := ggX10_init_X2_init
set_option maxRecDepth 20000 in
theorem ggX10_init_X0_init : GoodIn wsX10_init wsX0_init := goodIn_r _ [104, 105, 2, 3, 106, 107, 45, 108, 109, 110, 167, 168, 169] (by decide +kernel) (by decide +kernel)
set_option maxRecDepth 20000 in
theorem gX10_init_X0_init_n69 : GoodIn wsX10_init (wsX0_init) := ggX10_init_X0_init
set_option maxRecDepth 20000 in
theorem ggX10_init_X4_init : GoodIn wsX10_init wsX4_init := goodIn_r _ [112, 113, 2, 3, 45, 114, 89, 115, 116, 170, 171, 172, 173] (by decide +kernel) (by decide +kernel)
set_option maxRecDepth 20000 in
theorem gX10_init_X4_init_n76 : GoodIn wsX10_init (wsX4_init) := ggX10_init_X4_init
set_option maxRecDepth 20000 in
theorem ggX10_init_X7_init : GoodIn wsX10_init wsX7_init := goodIn_r _ [118, 119, 2, 3, 89, 120, 174, 175, 176, 177] (by decide +kernel) (by decide +kernel)
set_option maxRecDepth 20000 in
theorem gX10_init_X7_init_n94 : GoodIn wsX10_init (wsX7_init) := ggX10_init_X7_init
theorem dX10_init_0 : decode cX10_init 0 = .ok (.aload_n 0, 1) := by decide +kernel
theorem dX10_init_1 : decode cX10_init 1 = .ok (.invokespecial 3, 3) := by decide +kernel
theorem dX10_init_4 : decode cX10_init 4 = .ok (.aload_n 0, 1) := by decide +kernel
theorem dX10_init_5 : decode cX10_init 5 = .ok (.new 9, 3) := by decide +kernel
theorem dX10_init_8 : decode cX10_init 8 = .ok (.dup, 1) := by decide +kernel
theorem dX10_init_9 : decode cX10_init 9 = .ok (.invokespecial 11, 3) := by decide +kernel
theorem dX10_init_12 : decode cX10_init 12 = .ok (.putfield 12, 3) := by decide +kernel
theorem dX10_init_15 : decode cX10_init 15 = .ok (.aload_n 0, 1) := by decide +kernel
theorem dX10_init_16 : decode cX10_init 16 = .ok (.new 16, 3) := by decide +kernel
theorem dX10_init_19 : decode cX10_init 19 = .ok (.dup, 1) := by decide +kernel
theorem dX10_init_20 : decode cX10_init 20 = .ok (.invokespecial 18, 3) := by decide +kernel
theorem dX10_init_23 : decode cX10_init 23 = .ok (.putfield 19, 3) := by decide +kernel
theorem dX10_init_26 : decode cX10_init 26 = .ok (.aload_n 0, 1) := by decide +kernel
theorem dX10_init_27 : decode cX10_init 27 = .ok (.new 9, 3) := by decide +kernel
theorem dX10_init_30 : decode cX10_init 30 = .ok (.dup, 1) := by decide +kernel
theorem dX10_init_31 : decode cX10_init 31 = .ok (.invokespecial 11, 3) := by decide +kernel
theorem dX10_init_34 : decode cX10_init 34 = .ok (.putfield 23, 3) := by decide +kernel
theorem dX10_init_37 : decode cX10_init 37 = .ok (.aload_n 0, 1) := by decide +kernel
theorem dX10_init_38 : decode cX10_init 38 = .ok (.new 16, 3) := by decide +kernel
theorem dX10_init_41 : decode cX10_init 41 = .ok (.dup, 1) := by decide +kernel
theorem dX10_init_42 : decode cX10_init 42 = .ok (.invokespecial 18, 3) := by decide +kernel
theorem dX10_init_45 : decode cX10_init 45 = .ok (.putfield 26, 3) := by decide +kernel
theorem dX10_init_48 : decode cX10_init 48 = .ok (.aload_n 0, 1) := by decide +kernel
theorem dX10_init_49 : decode cX10_init 49 = .ok (.new 29, 3) := by decide +kernel
theorem dX10_init_52 : decode cX10_init 52 = .ok (.dup, 1) := by decide +kernel
theorem dX10_init_53 : decode cX10_init 53 = .ok (.invokespecial 31, 3) := by decide +kernel
theorem dX10_init_56 : decode cX10_init 56 = .ok (.putfield 32, 3) := by decide +kernel
theorem dX10_init_59 : decode cX10_init 59 = .ok (.aload_n 0, 1) := by decide +kernel
theorem dX10_init_60 : decode cX10_init 60 = .ok (.new 9, 3) := by decide +kernel
theorem dX10_init_63 : decode cX10_init 63 = .ok (.dup, 1) := by decide +kernel
theorem dX10_init_64 : decode cX10_init 64 = .ok (.invokespecial 11, 3) := by decide +kernel
theorem dX10_init_67 : decode cX10_init 67 = .ok (.putfield 36, 3) := by decide +kernel
theorem dX10_init_70 : decode cX10_init 70 = .ok (.aload_n 0, 1) := by decide +kernel
theorem dX10_init_71 : decode cX10_init 71 = .ok (.new 39, 3) := by decide +kernel
theorem dX10_init_74 : decode cX10_init 74 = .ok (.dup, 1) := by decide +kernel
theorem dX10_init_75 : decode cX10_init 75 = .ok (.invokespecial 41, 3) := by decide +kernel
theorem dX10_init_78 : decode cX10_init 78 = .ok (.putfield 42, 3) := by decide +kernel
theorem dX10_init_81 : decode cX10_init 81 = .ok (.aload_n 0, 1) := by decide +kernel
theorem dX10_init_82 : decode cX10_init 82 = .ok (.new 46, 3) := by decide +kernel
theorem dX10_init_85 : decode cX10_init 85 = .ok (.dup, 1) := by decide +kernel
theorem dX10_init_86 : decode cX10_init 86 = .ok (.invokespecial 48, 3) := by decide +kernel
theorem dX10_init_89 : decode cX10_init 89 = .ok (.putfield 49, 3) := by decide +kernel
theorem dX10_init_92 : decode cX10_init 92 = .ok (.aload_n 0, 1) := by decide +kernel
theorem dX10_init_93 : decode cX10_init 93 = .ok (.new 53, 3) := by decide +kernel
theorem dX10_init_96 : decode cX10_init 96 = .ok (.dup, 1) := by decide +kernel
theorem dX10_init_97 : decode cX10_init 97 = .ok (.invokespecial 55, 3) := by decide +kernel
theorem dX10_init_100 : decode cX10_init 100 = .ok (.putfield 56, 3) := by decide +kernel
theorem dX10_init_103 : decode cX10_init 103 = .ok (.aload_n 0, 1) := by decide +kernel
theorem dX10_init_104 : decode cX10_init 104 = .ok (.new 60, 3) := by decide +kernel
theorem dX10_init_107 : decode cX10_init 107 = .ok (.dup, 1) := by decide +kernel
theorem dX10_init_108 : decode cX10_init 108 = .ok (.invokespecial 62, 3) := by decide +kernel
theorem dX10_init_111 : decode cX10_init 111 = .ok (.putfield 63, 3) := by decide +kernel
theorem dX10_init_114 : decode cX10_init 114 = .ok (.aload_n 0, 1) := by decide +kernel
theorem dX10_init_115 : decode cX10_init 115 = .ok (.new 67, 3) := by decide +kernel
theorem dX10_init_118 : decode cX10_init 118 = .ok (.dup, 1) := by decide +kernel
theorem dX10_init_119 : decode cX10_init 119 = .ok (.invokespecial 69, 3) := by decide +kernel
theorem dX10_init_122 : decode cX10_init 122 = .ok (.putfield 70, 3) := by decide +kernel
theorem dX10_init_125 : decode cX10_init 125 = .ok (.aload_n 0, 1) := by decide +kernel
theorem dX10_init_126 : decode cX10_init 126 = .ok (.new 74, 3) := by decide +kernel
theorem dX10_init_129 : decode cX10_init 129 = .ok (.dup, 1) := by decide +kernel
theorem dX10_init_130 : decode cX10_init 130 = .ok (.invokespecial 76, 3) := by decide +kernel
theorem dX10_init_133 : decode cX10_init 133 = .ok (.putfield 77, 3) := by decide +kernel
theorem dX10_init_136 : decode cX10_init 136 = .ok (.aload_n 0, 1) := by decide +kernel
theorem dX10_init_137 : decode cX10_init 137 = .ok (.iconst 4, 1) := by decide +kernel
theorem dX10_init_138 : decode cX10_init 138 = .ok (.anewarray 81, 3) := by decide +kernel
theorem dX10_init_141 : decode cX10_init 141 = .ok (.putfield 83, 3) := by decide +kernel
theorem dX10_init_144 : decode cX10_init 144 = .ok (.aload_n 0, 1) := by decide +kernel
theorem dX10_init_145 : decode cX10_init 145 = .ok (.bipush 8, 2) := by decide +kernel
theorem dX10_init_147 : decode cX10_init 147 = .ok (.newarray .int, 2) := by decide +kernel
theorem dX10_init_149 : decode cX10_init 149 = .ok (.putfield 87, 3) := by decide +kernel
theorem dX10_init_152 : decode cX10_init 152 = .ok (.aload_n 0, 1) := by decide +kernel
theorem dX10_init_153 : decode cX10_init 153 = .ok (.iconst 3, 1) := by decide +kernel
theorem dX10_init_154 : decode cX10_init 154 = .ok (.newarray .int, 2) := by decide +kernel
theorem dX10_init_156 : decode cX10_init 156 = .ok (.putfield 91, 3) := by decide +kernel
theorem dX10_init_159 : decode cX10_init 159 = .ok (.iconst 0, 1) := by decide +kernel
theorem dX10_init_160 : decode cX10_init 160 = .ok (.istore_n 1, 1) := by decide +kernel
theorem dX10_init_161 : decode cX10_init 161 = .ok (.iload_n 1, 1) := by decide +kernel
theorem dX10_init_162 : decode cX10_init 162 = .ok (.iconst 4, 1) := by decide +kernel
theorem dX10_init_163 : decode cX10_init 163 = .ok (.if_icmp .ge 22, 3) := by decide +kernel
theorem dX10_init_166 : decode cX10_init 166 = .ok (.aload_n 0, 1) := by decide +kernel
theorem dX10_init_167 : decode cX10_init 167 = .ok (.getfield 83, 3) := by decide +kernel
theorem dX10_init_170 : decode cX10_init 170 = .ok (.iload_n 1, 1) := by decide +kernel
theorem dX10_init_171 : decode cX10_init 171 = .ok (.new 81, 3) := by decide +kernel
theorem dX10_init_174 : decode cX10_init 174 = .ok (.dup, 1) := by decide +kernel
theorem dX10_init_175 : decode cX10_init 175 = .ok (.invokespecial 94, 3) := by decide +kernel
theorem dX10_init_178 : decode cX10_init 178 = .ok (.aastore, 1) := by decide +kernel
theorem dX10_init_179 : decode cX10_init 179 = .ok (.iinc 1 1, 3) := by decide +kernel
theorem dX10_init_182 : decode cX10_init 182 = .ok (.goto (-21), 3) := by decide +kernel
theorem dX10_init_185 : decode cX10_init 185 = .ok (.return_, 1) := by decide +kernel
set_option maxRecDepth 20000 in
theorem ggX10_kind_X10_within : GoodIn wsX10_kind wsX10_within := goodIn_r _ [8] (by decide +kernel) (by decide +kernel)
set_option maxRecDepth 20000 in
theorem gX10_kind_X10_within : GoodIn wsX10_kind (va_wsS RX10 95 yX10_within wsX10_within) := goodIn_app (goodIn_of _ (by decide +kernel)) ggX10_kind_X10_within
set_option maxRecDepth 20000 in
theorem ggX10_kind_X0_forget : GoodIn wsX10_kind wsX0_forget := goodIn_r _ [13, 14, 37, 38, 39] (by decide +kernel) (by decide +kernel)
set_option maxRecDepth 20000 in
theorem gX10_kind_X0_forget : GoodIn wsX10_kind (wsV RX10 106 RX0 yX0_forget wsX0_forget) := goodIn_app (goodIn_of _ (by decide +kernel)) ggX10_kind_X0_forget
theorem dX10_kind_0 : decode cX10_kind 0 = .ok (.iload_n 1, 1) := by decide +kernel
theorem dX10_kind_1 : decode cX10_kind 1 = .ok (.iconst 0, 1) := by decide +kernel
theorem dX10_kind_2 : decode cX10_kind 2 = .ok (.iconst 3, 1) := by decide +kernel
theorem dX10_kind_3 : decode cX10_kind 3 = .ok (.invokestatic 95, 3) := by decide +kernel
theorem dX10_kind_6 : decode cX10_kind 6 = .ok (.ifCond .ne 5, 3) := by decide +kernel
theorem dX10_kind_9 : decode cX10_kind 9 = .ok (.iconst (-1), 1) := by decide +kernel
theorem dX10_kind_10 : decode cX10_kind 10 = .ok (.ireturn, 1) := by decide +kernel
theorem dX10_kind_11 : decode cX10_kind 11 = .ok (.aload_n 0, 1) := by decide +kernel
theorem dX10_kind_12 : decode cX10_kind 12 = .ok (.getfield 12, 3) := by decide +kernel
theorem dX10_kind_15 : decode cX10_kind 15 = .ok (.getfield 99, 3) := by decide +kernel
theorem dX10_kind_18 : decode cX10_kind 18 = .ok (.istore_n 2, 1) := by decide +kernel
theorem dX10_kind_19 : decode cX10_kind 19 = .ok (.aload_n 0, 1) := by decide +kernel
theorem dX10_kind_20 : decode cX10_kind 20 = .ok (.getfield 12, 3) := by decide +kernel
theorem dX10_kind_23 : decode cX10_kind 23 = .ok (.iload_n 1, 1) := by decide +kernel
theorem dX10_kind_24 : decode cX10_kind 24 = .ok (.putfield 99, 3) := by decide +kernel
theorem dX10_kind_27 : decode cX10_kind 27 = .ok (.aload_n 0, 1) := by decide +kernel
theorem dX10_kind_28 : decode cX10_kind 28 = .ok (.getfield 12, 3) := by decide +kernel
theorem dX10_kind_31 : decode cX10_kind 31 = .ok (.iconst 0, 1) := by decide +kernel
theorem dX10_kind_32 : decode cX10_kind 32 = .ok (.putfield 103, 3) := by decide +kernel
theorem dX10_kind_35 : decode cX10_kind 35 = .ok (.aload_n 0, 1) := by decide +kernel
theorem dX10_kind_36 : decode cX10_kind 36 = .ok (.getfield 70, 3) := by decide +kernel
theorem dX10_kind_39 : decode cX10_kind 39 = .ok (.invokevirtual 106, 3) := by decide +kernel
theorem dX10_kind_42 : decode cX10_kind 42 = .ok (.iload_n 2, 1) := by decide +kernel
theorem dX10_kind_43 : decode cX10_kind 43 = .ok (.ireturn, 1) := by decide +kernel
set_option maxRecDepth 20000 in
theorem ggX10_link_X10_within : GoodIn wsX10_link wsX10_within := goodIn_r _ [7] (by decide +kernel) (by decide +kernel)
set_option maxRecDepth 20000 in
theorem gX10_link_X10_within : GoodIn wsX10_link (va_wsS RX10 95 yX10_within wsX10_within) := goodIn_app (goodIn_of _ (by decide +kernel)) ggX10_link_X10_within
set_option maxRecDepth 20000 in
theorem ggX10_link_X1_append : GoodIn wsX10_link wsX1_append := goodIn_r _ [12, 13, 14, 15, 38, 39, 40, 41, 42, 43] (by decide +kernel) (by decide +kernel)
set_option maxRecDepth 20000 in
theorem gX10_link_X1_append : GoodIn wsX10_link (wsV RX10 112 RX1 yX1_append wsX1_append) := goodIn_app (goodIn_of _ (by decide +kernel)) ggX10_link_X1_append
set_option maxRecDepth 20000 in
theorem ggX10_link_X0_forget : GoodIn wsX10_link wsX0_forget := goodIn_r _ [20, 21, 44, 45, 46] (by decide +kernel) (by decide +kernel)
set_option maxRecDepth 20000 in
theorem gX10_link_X0_forget : GoodIn wsX10_link (wsV RX10 106 RX0 yX0_forget wsX0_forget) := goodIn_app (goodIn_of _ (by decide +kernel)) ggX10_link_X0_forget
theorem dX10_link_0 : decode cX10_link 0 = .ok (.iload_n 1, 1) := by decide +kernel
theorem dX10_link_1 : decode cX10_link 1 = .ok (.iconst 1, 1) := by decide +kernel
theorem dX10_link_2 : decode cX10_link 2 = .ok (.bipush 9, 2) := by decide +kernel
theorem dX10_link_4 : decode cX10_link 4 = .ok (.invokestatic 95, 3) := by decide +kernel
theorem dX10_link_7 : decode cX10_link 7 = .ok (.ifCond .ne 5, 3) := by decide +kernel
theorem dX10_link_10 : decode cX10_link 10 = .ok (.iconst (-1), 1) := by decide +kernel
theorem dX10_link_11 : decode cX10_link 11 = .ok (.ireturn, 1) := by decide +kernel
theorem dX10_link_12 : decode cX10_link 12 = .ok (.aload_n 0, 1) := by decide +kernel
theorem dX10_link_13 : decode cX10_link 13 = .ok (.getfield 12, 3) := by decide +kernel
theorem dX10_link_16 : decode cX10_link 16 = .ok (.getfield 109, 3) := by decide +kernel
theorem dX10_link_19 : decode cX10_link 19 = .ok (.bipush 24, 2) := by decide +kernel
theorem dX10_link_21 : decode cX10_link 21 = .ok (.if_icmp .lt 6, 3) := by decide +kernel
theorem dX10_link_24 : decode cX10_link 24 = .ok (.bipush (-3), 2) := by decide +kernel
theorem dX10_link_26 : decode cX10_link 26 = .ok (.ireturn, 1) := by decide +kernel
theorem dX10_link_27 : decode cX10_link 27 = .ok (.aload_n 0, 1) := by decide +kernel
theorem dX10_link_28 : decode cX10_link 28 = .ok (.getfield 12, 3) := by decide +kernel
theorem dX10_link_31 : decode cX10_link 31 = .ok (.iload_n 1, 1) := by decide +kernel
theorem dX10_link_32 : decode cX10_link 32 = .ok (.invokevirtual 112, 3) := by decide +kernel
theorem dX10_link_35 : decode cX10_link 35 = .ok (.aload_n 0, 1) := by decide +kernel
theorem dX10_link_36 : decode cX10_link 36 = .ok (.getfield 70, 3) := by decide +kernel
theorem dX10_link_39 : decode cX10_link 39 = .ok (.invokevirtual 106, 3) := by decide +kernel
theorem dX10_link_42 : decode cX10_link 42 = .ok (.aload_n 0, 1) := by decide +kernel
theorem dX10_link_43 : decode cX10_link 43 = .ok (.getfield 12, 3) := by decide +kernel
theorem dX10_link_46 : decode cX10_link 46 = .ok (.getfield 109, 3) := by decide +kernel
theorem dX10_link_49 : decode cX10_link 49 = .ok (.ireturn, 1) := by decide +kernel
set_option maxRecDepth 20000 in
theorem ggX10_worth_X10_within : GoodIn wsX10_worth wsX10_within := goodIn_r _ [8] (by decide +kernel) (by decide +kernel)
set_option maxRecDepth 20000 in
theorem gX10_worth_X10_within : GoodIn wsX10_worth (va_wsS RX10 95 yX10_within wsX10_within) := goodIn_app (goodIn_of _ (by decide +kernel)) ggX10_worth_X10_within
set_option maxRecDepth 20000 in
theorem ggX10_worth_X1_value : GoodIn wsX10_worth wsX1_value := goodIn_r _ [13, 14, 15, 16, 39, 40, 41, 42, 43, 44] (by decide +kernel) (by decide +kernel)
set_option maxRecDepth 20000 in
theorem gX10_worth_X1_value : GoodIn wsX10_worth (wsV RX10 119 RX1 yX1_value wsX1_value) := goodIn_app (goodIn_of _ (by decide +kernel)) ggX10_worth_X1_value
set_option maxRecDepth 20000 in
theorem ggX10_worth_X0_forget : GoodIn wsX10_worth wsX0_forget := goodIn_r _ [21, 22, 45, 46, 47] (by decide +kernel) (by decide +kernel)
set_option maxRecDepth 20000 in
theorem gX10_worth_X0_forget : GoodIn wsX10_worth (wsV RX10 106 RX0 yX0_forget wsX0_forget) := goodIn_app (goodIn_of _ (by decide +kernel)) ggX10_worth_X0_forget
theorem dX10_worth_0 : decode cX10_worth 0 = .ok (.iload_n 1, 1) := by decide +kernel
theorem dX10_worth_1 : decode cX10_worth 1 = .ok (.iconst 0, 1) := by decide +kernel
theorem dX10_worth_2 : decode cX10_worth 2 = .ok (.aload_n 0, 1) := by decide +kernel
theorem dX10_worth_3 : decode cX10_worth 3 = .ok (.getfield 12, 3) := by decide +kernel
theorem dX10_worth_6 : decode cX10_worth 6 = .ok (.getfield 109, 3) := by decide +kernel
theorem dX10_worth_9 : decode cX10_worth 9 = .ok (.iconst 1, 1) := by decide +kernel
theorem dX10_worth_10 : decode cX10_worth 10 = .ok (.isub, 1) := by decide +kernel
theorem dX10_worth_11 : decode cX10_worth 11 = .ok (.invokestatic 95, 3) := by decide +kernel
theorem dX10_worth_14 : decode cX10_worth 14 = .ok (.ifCond .eq 13, 3) := by decide +kernel
theorem dX10_worth_17 : decode cX10_worth 17 = .ok (.iload_n 2, 1) := by decide +kernel
theorem dX10_worth_18 : decode cX10_worth 18 = .ok (.iconst 1, 1) := by decide +kernel
theorem dX10_worth_19 : decode cX10_worth 19 = .ok (.bipush 9, 2) := by decide +kernel
theorem dX10_worth_21 : decode cX10_worth 21 = .ok (.invokestatic 95, 3) := by decide +kernel
theorem dX10_worth_24 : decode cX10_worth 24 = .ok (.ifCond .ne 5, 3) := by decide +kernel
theorem dX10_worth_27 : decode cX10_worth 27 = .ok (.iconst (-1), 1) := by decide +kernel
theorem dX10_worth_28 : decode cX10_worth 28 = .ok (.ireturn, 1) := by decide +kernel
theorem dX10_worth_29 : decode cX10_worth 29 = .ok (.aload_n 0, 1) := by decide +kernel
theorem dX10_worth_30 : decode cX10_worth 30 = .ok (.getfield 12, 3) := by decide +kernel
theorem dX10_worth_33 : decode cX10_worth 33 = .ok (.getfield 116, 3) := by decide +kernel
theorem dX10_worth_36 : decode cX10_worth 36 = .ok (.iload_n 1, 1) := by decide +kernel
theorem dX10_worth_37 : decode cX10_worth 37 = .ok (.iaload, 1) := by decide +kernel
theorem dX10_worth_38 : decode cX10_worth 38 = .ok (.istore_n 3, 1) := by decide +kernel
theorem dX10_worth_39 : decode cX10_worth 39 = .ok (.aload_n 0, 1) := by decide +kernel
theorem dX10_worth_40 : decode cX10_worth 40 = .ok (.getfield 12, 3) := by decide +kernel
theorem dX10_worth_43 : decode cX10_worth 43 = .ok (.iload_n 1, 1) := by decide +kernel
theorem dX10_worth_44 : decode cX10_worth 44 = .ok (.iload_n 2, 1) := by decide +kernel
theorem dX10_worth_45 : decode cX10_worth 45 = .ok (.invokevirtual 119, 3) := by decide +kernel
theorem dX10_worth_48 : decode cX10_worth 48 = .ok (.aload_n 0, 1) := by decide +kernel
theorem dX10_worth_49 : decode cX10_worth 49 = .ok (.getfield 70, 3) := by decide +kernel
theorem dX10_worth_52 : decode cX10_worth 52 = .ok (.invokevirtual 106, 3) := by decide +kernel
theorem dX10_worth_55 : decode cX10_worth 55 = .ok (.iload_n 3, 1) := by decide +kernel
theorem dX10_worth_56 : decode cX10_worth 56 = .ok (.ireturn, 1) := by decide +kernel
set_option maxRecDepth 20000 in
theorem ggX10_cut_X1_hasNotch : GoodIn wsX10_cut wsX1_hasNotch := goodIn_r _ [7, 8, 9, 10, 6, 11, 12, 13, 14, 15, 16, 17, 44, 45, 46, 47, 48, 49] (by decide +kernel) (by decide +kernel)
set_option maxRecDepth 20000 in
theorem gX10_cut_X1_hasNotch : GoodIn wsX10_cut (wsV RX10 123 RX1 yX1_hasNotch wsX1_hasNotch) := goodIn_app (goodIn_of _ (by decide +kernel)) ggX10_cut_X1_hasNotch
set_option maxRecDepth 20000 in
theorem ggX10_cut_X1_placeOf : GoodIn wsX10_cut wsX1_placeOf := goodIn_r _ [21, 22, 23, 44, 45, 46, 47, 48, 49] (by decide +kernel) (by decide +kernel)
set_option maxRecDepth 20000 in
theorem gX10_cut_X1_placeOf : GoodIn wsX10_cut (wsV RX10 127 RX1 yX1_placeOf wsX1_placeOf) := goodIn_app (goodIn_of _ (by decide +kernel)) ggX10_cut_X1_placeOf
set_option maxRecDepth 20000 in
theorem ggX10_cut_X1_open : GoodIn wsX10_cut wsX1_open := goodIn_r _ [27, 22, 23, 44, 45, 46, 47, 48, 49] (by decide +kernel) (by decide +kernel)
set_option maxRecDepth 20000 in
theorem gX10_cut_X1_open : GoodIn wsX10_cut (wsV RX10 131 RX1 yX1_open wsX1_open) := goodIn_app (goodIn_of _ (by decide +kernel)) ggX10_cut_X1_open
theorem dX10_cut_0 : decode cX10_cut 0 = .ok (.aload_n 0, 1) := by decide +kernel
theorem dX10_cut_1 : decode cX10_cut 1 = .ok (.getfield 12, 3) := by decide +kernel
theorem dX10_cut_4 : decode cX10_cut 4 = .ok (.iload_n 1, 1) := by decide +kernel
theorem dX10_cut_5 : decode cX10_cut 5 = .ok (.invokevirtual 123, 3) := by decide +kernel
theorem dX10_cut_8 : decode cX10_cut 8 = .ok (.ifCond .ne 5, 3) := by decide +kernel
theorem dX10_cut_11 : decode cX10_cut 11 = .ok (.iconst (-1), 1) := by decide +kernel
theorem dX10_cut_12 : decode cX10_cut 12 = .ok (.ireturn, 1) := by decide +kernel
theorem dX10_cut_13 : decode cX10_cut 13 = .ok (.aload_n 0, 1) := by decide +kernel
theorem dX10_cut_14 : decode cX10_cut 14 = .ok (.getfield 12, 3) := by decide +kernel
theorem dX10_cut_17 : decode cX10_cut 17 = .ok (.iload_n 1, 1) := by decide +kernel
theorem dX10_cut_18 : decode cX10_cut 18 = .ok (.invokevirtual 127, 3) := by decide +kernel
theorem dX10_cut_21 : decode cX10_cut 21 = .ok (.ifCond .lt 6, 3) := by decide +kernel
theorem dX10_cut_24 : decode cX10_cut 24 = .ok (.bipush (-2), 2) := by decide +kernel
theorem dX10_cut_26 : decode cX10_cut 26 = .ok (.ireturn, 1) := by decide +kernel
theorem dX10_cut_27 : decode cX10_cut 27 = .ok (.aload_n 0, 1) := by decide +kernel
theorem dX10_cut_28 : decode cX10_cut 28 = .ok (.getfield 12, 3) := by decide +kernel
theorem dX10_cut_31 : decode cX10_cut 31 = .ok (.getfield 103, 3) := by decide +kernel
theorem dX10_cut_34 : decode cX10_cut 34 = .ok (.iconst 5, 1) := by decide +kernel
theorem dX10_cut_35 : decode cX10_cut 35 = .ok (.if_icmp .lt 6, 3) := by decide +kernel
theorem dX10_cut_38 : decode cX10_cut 38 = .ok (.bipush (-3), 2) := by decide +kernel
theorem dX10_cut_40 : decode cX10_cut 40 = .ok (.ireturn, 1) := by decide +kernel
theorem dX10_cut_41 : decode cX10_cut 41 = .ok (.aload_n 0, 1) := by decide +kernel
theorem dX10_cut_42 : decode cX10_cut 42 = .ok (.getfield 12, 3) := by decide +kernel
theorem dX10_cut_45 : decode cX10_cut 45 = .ok (.iload_n 1, 1) := by decide +kernel
theorem dX10_cut_46 : decode cX10_cut 46 = .ok (.invokevirtual 131, 3) := by decide +kernel
theorem dX10_cut_49 : decode cX10_cut 49 = .ok (.aload_n 0, 1) := by decide +kernel
theorem dX10_cut_50 : decode cX10_cut 50 = .ok (.getfield 12, 3) := by decide +kernel
theorem dX10_cut_53 : decode cX10_cut 53 = .ok (.getfield 103, 3) := by decide +kernel
theorem dX10_cut_56 : decode cX10_cut 56 = .ok (.ireturn, 1) := by decide +kernel
set_option maxRecDepth 20000 in
theorem ggX10_mend_X1_hasNotch : GoodIn wsX10_mend wsX1_hasNotch := goodIn_r _ [7, 8, 9, 10, 6, 11, 12, 13, 14, 15, 16, 17, 44, 45, 46, 47, 48, 49] (by decide +kernel) (by decide +kernel)
set_option maxRecDepth 20000 in
theorem gX10_mend_X1_hasNotch : GoodIn wsX10_mend (wsV RX10 123 RX1 yX1_hasNotch wsX1_hasNotch) := goodIn_app (goodIn_of _ (by decide +kernel)) ggX10_mend_X1_hasNotch
set_option maxRecDepth 20000 in
theorem ggX10_mend_X1_placeOf : GoodIn wsX10_mend wsX1_placeOf := goodIn_r _ [21, 22, 23, 44, 45, 46, 47, 48, 49] (by decide +kernel) (by decide +kernel)
set_option maxRecDepth 20000 in
theorem gX10_mend_X1_placeOf : GoodIn wsX10_mend (wsV RX10 127 RX1 yX1_placeOf wsX1_placeOf) := goodIn_app (goodIn_of _ (by decide +kernel)) ggX10_mend_X1_placeOf
set_option maxRecDepth 20000 in
theorem ggX10_mend_X1_close : GoodIn wsX10_mend wsX1_close := goodIn_r _ [27, 22, 23, 44, 45, 46, 47, 48, 49] (by decide +kernel) (by decide +kernel)
set_option maxRecDepth 20000 in
theorem gX10_mend_X1_close : GoodIn wsX10_mend (wsV RX10 134 RX1 yX1_close wsX1_close) := goodIn_app (goodIn_of _ (by decide +kernel)) ggX10_mend_X1_close
theorem dX10_mend_0 : decode cX10_mend 0 = .ok (.aload_n 0, 1) := by decide +kernel
theorem dX10_mend_1 : decode cX10_mend 1 = .ok (.getfield 12, 3) := by decide +kernel
theorem dX10_mend_4 : decode cX10_mend 4 = .ok (.iload_n 1, 1) := by decide +kernel
theorem dX10_mend_5 : decode cX10_mend 5 = .ok (.invokevirtual 123, 3) := by decide +kernel
theorem dX10_mend_8 : decode cX10_mend 8 = .ok (.ifCond .ne 5, 3) := by decide +kernel
theorem dX10_mend_11 : decode cX10_mend 11 = .ok (.iconst (-1), 1) := by decide +kernel
theorem dX10_mend_12 : decode cX10_mend 12 = .ok (.ireturn, 1) := by decide +kernel
theorem dX10_mend_13 : decode cX10_mend 13 = .ok (.aload_n 0, 1) := by decide +kernel
theorem dX10_mend_14 : decode cX10_mend 14 = .ok (.getfield 12, 3) := by decide +kernel
theorem dX10_mend_17 : decode cX10_mend 17 = .ok (.iload_n 1, 1) := by decide +kernel
theorem dX10_mend_18 : decode cX10_mend 18 = .ok (.invokevirtual 127, 3) := by decide +kernel
theorem dX10_mend_21 : decode cX10_mend 21 = .ok (.istore_n 2, 1) := by decide +kernel
theorem dX10_mend_22 : decode cX10_mend 22 = .ok (.iload_n 2, 1) := by decide +kernel
theorem dX10_mend_23 : decode cX10_mend 23 = .ok (.ifCond .ge 6, 3) := by decide +kernel
theorem dX10_mend_26 : decode cX10_mend 26 = .ok (.bipush (-2), 2) := by decide +kernel
theorem dX10_mend_28 : decode cX10_mend 28 = .ok (.ireturn, 1) := by decide +kernel
theorem dX10_mend_29 : decode cX10_mend 29 = .ok (.aload_n 0, 1) := by decide +kernel
theorem dX10_mend_30 : decode cX10_mend 30 = .ok (.getfield 12, 3) := by decide +kernel
theorem dX10_mend_33 : decode cX10_mend 33 = .ok (.iload_n 2, 1) := by decide +kernel
theorem dX10_mend_34 : decode cX10_mend 34 = .ok (.invokevirtual 134, 3) := by decide +kernel
theorem dX10_mend_37 : decode cX10_mend 37 = .ok (.aload_n 0, 1) := by decide +kernel
theorem dX10_mend_38 : decode cX10_mend 38 = .ok (.getfield 12, 3) := by decide +kernel
theorem dX10_mend_41 : decode cX10_mend 41 = .ok (.getfield 103, 3) := by decide +kernel
theorem dX10_mend_44 : decode cX10_mend 44 = .ok (.ireturn, 1) := by decide +kernel
set_option maxRecDepth 20000 in
theorem ggX10_type_X10_within : GoodIn wsX10_type wsX10_within := goodIn_r _ [6] (by decide +kernel) (by decide +kernel)
set_option maxRecDepth 20000 in
theorem gX10_type_X10_within : GoodIn wsX10_type (va_wsS RX10 95 yX10_within wsX10_within) := goodIn_app (goodIn_of _ (by decide +kernel)) ggX10_type_X10_within
set_option maxRecDepth 20000 in
theorem ggX10_type_X9_canHold : GoodIn wsX10_type wsX9_canHold := goodIn_r _ [10, 11, 12, 9, 13, 14, 4, 5, 6] (by decide +kernel) (by decide +kernel)
set_option maxRecDepth 20000 in
theorem gX10_type_X9_canHold : GoodIn wsX10_type (va_wsS RX10 137 yX9_canHold wsX9_canHold) := goodIn_app (goodIn_of _ (by decide +kernel)) ggX10_type_X9_canHold
set_option maxRecDepth 20000 in
theorem ggX10_type_X9_write : GoodIn wsX10_type wsX9_write := goodIn_r _ [18, 19, 20, 11, 12, 9, 13, 14, 37, 38, 39] (by decide +kernel) (by decide +kernel)
set_option maxRecDepth 20000 in
theorem gX10_type_X9_write : GoodIn wsX10_type (wsV RX10 144 RX9 yX9_write wsX9_write) := goodIn_app (goodIn_of _ (by decide +kernel)) ggX10_type_X9_write
theorem dX10_type_0 : decode cX10_type 0 = .ok (.iload_n 3, 1) := by decide +kernel
theorem dX10_type_1 : decode cX10_type 1 = .ok (.iconst 1, 1) := by decide +kernel
theorem dX10_type_2 : decode cX10_type 2 = .ok (.bipush 8, 2) := by decide +kernel
theorem dX10_type_4 : decode cX10_type 4 = .ok (.invokestatic 95, 3) := by decide +kernel
theorem dX10_type_7 : decode cX10_type 7 = .ok (.ifCond .eq 11, 3) := by decide +kernel
theorem dX10_type_10 : decode cX10_type 10 = .ok (.lload_n 1, 1) := by decide +kernel
theorem dX10_type_11 : decode cX10_type 11 = .ok (.iload_n 3, 1) := by decide +kernel
theorem dX10_type_12 : decode cX10_type 12 = .ok (.invokestatic 137, 3) := by decide +kernel
theorem dX10_type_15 : decode cX10_type 15 = .ok (.ifCond .ne 5, 3) := by decide +kernel
theorem dX10_type_18 : decode cX10_type 18 = .ok (.iconst (-1), 1) := by decide +kernel
theorem dX10_type_19 : decode cX10_type 19 = .ok (.ireturn, 1) := by decide +kernel
theorem dX10_type_20 : decode cX10_type 20 = .ok (.aload_n 0, 1) := by decide +kernel
theorem dX10_type_21 : decode cX10_type 21 = .ok (.getfield 32, 3) := by decide +kernel
theorem dX10_type_24 : decode cX10_type 24 = .ok (.getfield 141, 3) := by decide +kernel
theorem dX10_type_27 : decode cX10_type 27 = .ok (.iload_n 3, 1) := by decide +kernel
theorem dX10_type_28 : decode cX10_type 28 = .ok (.iadd, 1) := by decide +kernel
theorem dX10_type_29 : decode cX10_type 29 = .ok (.bipush 60, 2) := by decide +kernel
theorem dX10_type_31 : decode cX10_type 31 = .ok (.if_icmp .le 6, 3) := by decide +kernel
theorem dX10_type_34 : decode cX10_type 34 = .ok (.bipush (-3), 2) := by decide +kernel
theorem dX10_type_36 : decode cX10_type 36 = .ok (.ireturn, 1) := by decide +kernel
theorem dX10_type_37 : decode cX10_type 37 = .ok (.aload_n 0, 1) := by decide +kernel
theorem dX10_type_38 : decode cX10_type 38 = .ok (.getfield 32, 3) := by decide +kernel
theorem dX10_type_41 : decode cX10_type 41 = .ok (.lload_n 1, 1) := by decide +kernel
theorem dX10_type_42 : decode cX10_type 42 = .ok (.iload_n 3, 1) := by decide +kernel
theorem dX10_type_43 : decode cX10_type 43 = .ok (.invokevirtual 144, 3) := by decide +kernel
theorem dX10_type_46 : decode cX10_type 46 = .ok (.aload_n 0, 1) := by decide +kernel
theorem dX10_type_47 : decode cX10_type 47 = .ok (.getfield 32, 3) := by decide +kernel
theorem dX10_type_50 : decode cX10_type 50 = .ok (.getfield 141, 3) := by decide +kernel
theorem dX10_type_53 : decode cX10_type 53 = .ok (.ireturn, 1) := by decide +kernel
set_option maxRecDepth 20000 in
theorem ggX10_chain_X9_read : GoodIn wsX10_chain wsX9_read := goodIn_r _ [10, 11, 12, 13, 14, 15, 9, 16, 17, 18, 19, 20, 21, 22, 23, 24, 25, 26, 27, 28, 29, 30, 31, 32, 33, 34, 35, 36, 37, 38, 39, 40, 41, 42, 43, 44, 45, 46, 47, 48, 49, 50, 51, 52, 53, 54, 55, 56, 57, 58, 59, 60, 61, 62, 63, 64, 65, 66, 67, 68, 69, 70, 71, 72, 73, 74, 75, 76, 77, 78, 79, 80, 81, 82, 83, 84, 85, 86, 87, 88, 89, 90, 91, 92, 93, 94, 95, 96, 97, 98, 99, 100, 101, 102, 103, 104, 105, 106, 107, 108, 109, 110, 111, 112, 113, 114, 115, 116, 117, 118, 119, 120, 121, 122, 123, 124, 125, 126, 127, 128, 129, 130, 131, 132, 133, 134, 135, 136, 137, 138, 139, 140, 141, 142, 143, 144, 145, 146, 147, 148, 149, 150, 151, 152, 153, 154, 155, 156, 157, 158, 159, 160, 161, 192, 193, 194, 195, 196, 197, 198, 199, 200] (by decide +kernel) (by decide +kernel)
set_option maxRecDepth 20000 in
theorem gX10_chain_X9_read : GoodIn wsX10_chain (wsV RX10 148 RX9 yX9_read wsX9_read) := goodIn_app (goodIn_of _ (by decide +kernel)) ggX10_chain_X9_read
set_option maxRecDepth 20000 in
theorem ggX10_chain_X1_take : GoodIn wsX10_chain wsX1_take := goodIn_r _ [165, 130, 166, 167, 168, 169, 131, 157, 116, 117, 118, 195, 196, 197, 198, 199, 200] (by decide +kernel) (by decide +kernel)
set_option maxRecDepth 20000 in
theorem gX10_chain_X1_take : GoodIn wsX10_chain (wsV RX10 152 RX1 yX1_take wsX1_take) := goodIn_app (goodIn_of _ (by decide +kernel)) ggX10_chain_X1_take
set_option maxRecDepth 20000 in
theorem ggX10_chain_X0_forget : GoodIn wsX10_chain wsX0_forget := goodIn_r _ [174, 175, 201, 202, 203] (by decide +kernel) (by decide +kernel)
set_option maxRecDepth 20000 in
theorem gX10_chain_X0_forget : GoodIn wsX10_chain (wsV RX10 106 RX0 yX0_forget wsX0_forget) := goodIn_app (goodIn_of _ (by decide +kernel)) ggX10_chain_X0_forget
theorem dX10_chain_0 : decode cX10_chain 0 = .ok (.aload_n 0, 1) := by decide +kernel
theorem dX10_chain_1 : decode cX10_chain 1 = .ok (.getfield 32, 3) := by decide +kernel
theorem dX10_chain_4 : decode cX10_chain 4 = .ok (.aload_n 0, 1) := by decide +kernel
theorem dX10_chain_5 : decode cX10_chain 5 = .ok (.getfield 36, 3) := by decide +kernel
theorem dX10_chain_8 : decode cX10_chain 8 = .ok (.invokevirtual 148, 3) := by decide +kernel
theorem dX10_chain_11 : decode cX10_chain 11 = .ok (.istore_n 1, 1) := by decide +kernel
theorem dX10_chain_12 : decode cX10_chain 12 = .ok (.aload_n 0, 1) := by decide +kernel
theorem dX10_chain_13 : decode cX10_chain 13 = .ok (.getfield 32, 3) := by decide +kernel
theorem dX10_chain_16 : decode cX10_chain 16 = .ok (.iconst 0, 1) := by decide +kernel
theorem dX10_chain_17 : decode cX10_chain 17 = .ok (.putfield 141, 3) := by decide +kernel
theorem dX10_chain_20 : decode cX10_chain 20 = .ok (.iload_n 1, 1) := by decide +kernel
theorem dX10_chain_21 : decode cX10_chain 21 = .ok (.ifCond .le 21, 3) := by decide +kernel
theorem dX10_chain_24 : decode cX10_chain 24 = .ok (.aload_n 0, 1) := by decide +kernel
theorem dX10_chain_25 : decode cX10_chain 25 = .ok (.getfield 12, 3) := by decide +kernel
theorem dX10_chain_28 : decode cX10_chain 28 = .ok (.aload_n 0, 1) := by decide +kernel
theorem dX10_chain_29 : decode cX10_chain 29 = .ok (.getfield 36, 3) := by decide +kernel
theorem dX10_chain_32 : decode cX10_chain 32 = .ok (.invokevirtual 152, 3) := by decide +kernel
theorem dX10_chain_35 : decode cX10_chain 35 = .ok (.aload_n 0, 1) := by decide +kernel
theorem dX10_chain_36 : decode cX10_chain 36 = .ok (.getfield 70, 3) := by decide +kernel
theorem dX10_chain_39 : decode cX10_chain 39 = .ok (.invokevirtual 106, 3) := by decide +kernel
theorem dX10_chain_42 : decode cX10_chain 42 = .ok (.iload_n 1, 1) := by decide +kernel
theorem dX10_chain_43 : decode cX10_chain 43 = .ok (.ireturn, 1) := by decide +kernel
set_option maxRecDepth 20000 in
theorem ggX10_count_X1_notches : GoodIn wsX10_count wsX1_notches := goodIn_r _ [11, 12, 13, 14, 15, 10, 16, 17, 70, 71, 72, 73, 74, 75] (by decide +kernel) (by decide +kernel)
set_option maxRecDepth 20000 in
theorem gX10_count_X1_notches : GoodIn wsX10_count (wsV RX10 156 RX1 yX1_notches wsX1_notches) := goodIn_app (goodIn_of _ (by decide +kernel)) ggX10_count_X1_notches
set_option maxRecDepth 20000 in
theorem ggX10_count_X10_divide : GoodIn wsX10_count wsX10_divide := goodIn_r _ [22, 4, 1, 23, 3, 24, 25, 26, 27, 28, 29, 30, 31, 32, 14, 15, 10, 16, 17, 33, 34, 35, 36, 37, 38, 39, 40, 41, 42, 43, 44, 45, 46, 47, 48, 49, 54, 55, 56, 57, 58, 59, 60, 61, 62, 63, 64, 65, 66, 67, 68, 69, 70, 71, 72, 73, 74, 75, 76, 77, 78, 79] (by decide +kernel) (by decide +kernel)
set_option maxRecDepth 20000 in
theorem gX10_count_X10_divide : GoodIn wsX10_count (wsV RX10 160 RX10 yX10_divide wsX10_divide) := goodIn_app (goodIn_of _ (by decide +kernel)) ggX10_count_X10_divide
set_option maxRecDepth 20000 in
theorem ggX10_count_X5_whole : GoodIn wsX10_count wsX5_whole := goodIn_r _ [53, 29, 39, 76, 77, 78, 79] (by decide +kernel) (by decide +kernel)
set_option maxRecDepth 20000 in
theorem gX10_count_X5_whole : GoodIn wsX10_count (wsV RX10 166 RX5 yX5_whole wsX5_whole) := goodIn_app (goodIn_of _ (by decide +kernel)) ggX10_count_X5_whole
theorem dX10_count_0 : decode cX10_count 0 = .ok (.iload_n 1, 1) := by decide +kernel
theorem dX10_count_1 : decode cX10_count 1 = .ok (.tableswitch 95 0 5 #[39, 47, 55, 63, 75, 87], 39) := by decide +kernel
theorem dX10_count_40 : decode cX10_count 40 = .ok (.aload_n 0, 1) := by decide +kernel
theorem dX10_count_41 : decode cX10_count 41 = .ok (.getfield 12, 3) := by decide +kernel
theorem dX10_count_44 : decode cX10_count 44 = .ok (.getfield 109, 3) := by decide +kernel
theorem dX10_count_47 : decode cX10_count 47 = .ok (.ireturn, 1) := by decide +kernel
theorem dX10_count_48 : decode cX10_count 48 = .ok (.aload_n 0, 1) := by decide +kernel
theorem dX10_count_49 : decode cX10_count 49 = .ok (.getfield 12, 3) := by decide +kernel
theorem dX10_count_52 : decode cX10_count 52 = .ok (.invokevirtual 156, 3) := by decide +kernel
theorem dX10_count_55 : decode cX10_count 55 = .ok (.ireturn, 1) := by decide +kernel
theorem dX10_count_56 : decode cX10_count 56 = .ok (.aload_n 0, 1) := by decide +kernel
theorem dX10_count_57 : decode cX10_count 57 = .ok (.getfield 12, 3) := by decide +kernel
theorem dX10_count_60 : decode cX10_count 60 = .ok (.getfield 103, 3) := by decide +kernel
theorem dX10_count_63 : decode cX10_count 63 = .ok (.ireturn, 1) := by decide +kernel
theorem dX10_count_64 : decode cX10_count 64 = .ok (.aload_n 0, 1) := by decide +kernel
theorem dX10_count_65 : decode cX10_count 65 = .ok (.invokevirtual 160, 3) := by decide +kernel
theorem dX10_count_68 : decode cX10_count 68 = .ok (.aload_n 0, 1) := by decide +kernel
theorem dX10_count_69 : decode cX10_count 69 = .ok (.getfield 42, 3) := by decide +kernel
theorem dX10_count_72 : decode cX10_count 72 = .ok (.getfield 163, 3) := by decide +kernel
theorem dX10_count_75 : decode cX10_count 75 = .ok (.ireturn, 1) := by decide +kernel
theorem dX10_count_76 : decode cX10_count 76 = .ok (.aload_n 0, 1) := by decide +kernel
theorem dX10_count_77 : decode cX10_count 77 = .ok (.invokevirtual 160, 3) := by decide +kernel
theorem dX10_count_80 : decode cX10_count 80 = .ok (.aload_n 0, 1) := by decide +kernel
theorem dX10_count_81 : decode cX10_count 81 = .ok (.getfield 42, 3) := by decide +kernel
theorem dX10_count_84 : decode cX10_count 84 = .ok (.invokevirtual 166, 3) := by decide +kernel
theorem dX10_count_87 : decode cX10_count 87 = .ok (.ireturn, 1) := by decide +kernel
theorem dX10_count_88 : decode cX10_count 88 = .ok (.aload_n 0, 1) := by decide +kernel
theorem dX10_count_89 : decode cX10_count 89 = .ok (.getfield 12, 3) := by decide +kernel
theorem dX10_count_92 : decode cX10_count 92 = .ok (.getfield 99, 3) := by decide +kernel
theorem dX10_count_95 : decode cX10_count 95 = .ok (.ireturn, 1) := by decide +kernel
theorem dX10_count_96 : decode cX10_count 96 = .ok (.iconst (-1), 1) := by decide +kernel
theorem dX10_count_97 : decode cX10_count 97 = .ok (.ireturn, 1) := by decide +kernel
set_option maxRecDepth 20000 in
theorem ggX10_piece_X10_divide : GoodIn wsX10_piece wsX10_divide := goodIn_r _ [10, 1, 11, 12, 13, 14, 15, 16, 17, 18, 19, 20, 21, 22, 23, 24, 25, 26, 27, 28, 29, 30, 31, 32, 33, 34, 35, 36, 37, 38, 39, 40, 41, 42, 43, 44, 48, 49, 50, 51, 52, 53, 54, 55, 56, 57, 58, 59, 60, 61, 62, 63, 68, 69, 70, 71, 72, 73, 64, 65, 66, 67] (by decide +kernel) (by decide +kernel)
set_option maxRecDepth 20000 in
theorem gX10_piece_X10_divide : GoodIn wsX10_piece (wsV RX10 160 RX10 yX10_divide wsX10_divide) := goodIn_app (goodIn_of _ (by decide +kernel)) ggX10_piece_X10_divide
set_option maxRecDepth 20000 in
theorem ggX10_piece_X10_within : GoodIn wsX10_piece wsX10_within := goodIn_r _ [47] (by decide +kernel) (by decide +kernel)
set_option maxRecDepth 20000 in
theorem gX10_piece_X10_within : GoodIn wsX10_piece (va_wsS RX10 95 yX10_within wsX10_within) := goodIn_app (goodIn_of _ (by decide +kernel)) ggX10_piece_X10_within
theorem dX10_piece_0 : decode cX10_piece 0 = .ok (.aload_n 0, 1) := by decide +kernel
theorem dX10_piece_1 : decode cX10_piece 1 = .ok (.invokevirtual 160, 3) := by decide +kernel
theorem dX10_piece_4 : decode cX10_piece 4 = .ok (.iload_n 1, 1) := by decide +kernel
theorem dX10_piece_5 : decode cX10_piece 5 = .ok (.iconst 0, 1) := by decide +kernel
theorem dX10_piece_6 : decode cX10_piece 6 = .ok (.aload_n 0, 1) := by decide +kernel
theorem dX10_piece_7 : decode cX10_piece 7 = .ok (.getfield 42, 3) := by decide +kernel
theorem dX10_piece_10 : decode cX10_piece 10 = .ok (.getfield 163, 3) := by decide +kernel
theorem dX10_piece_13 : decode cX10_piece 13 = .ok (.iconst 1, 1) := by decide +kernel
theorem dX10_piece_14 : decode cX10_piece 14 = .ok (.isub, 1) := by decide +kernel
theorem dX10_piece_15 : decode cX10_piece 15 = .ok (.invokestatic 95, 3) := by decide +kernel
theorem dX10_piece_18 : decode cX10_piece 18 = .ok (.ifCond .ne 5, 3) := by decide +kernel
theorem dX10_piece_21 : decode cX10_piece 21 = .ok (.iconst (-1), 1) := by decide +kernel
theorem dX10_piece_22 : decode cX10_piece 22 = .ok (.ireturn, 1) := by decide +kernel
theorem dX10_piece_23 : decode cX10_piece 23 = .ok (.iload_n 2, 1) := by decide +kernel
theorem dX10_piece_24 : decode cX10_piece 24 = .ok (.tableswitch 58 0 2 #[28, 38, 48], 28) := by decide +kernel
theorem dX10_piece_52 : decode cX10_piece 52 = .ok (.aload_n 0, 1) := by decide +kernel
theorem dX10_piece_53 : decode cX10_piece 53 = .ok (.getfield 42, 3) := by decide +kernel
theorem dX10_piece_56 : decode cX10_piece 56 = .ok (.getfield 169, 3) := by decide +kernel
theorem dX10_piece_59 : decode cX10_piece 59 = .ok (.iload_n 1, 1) := by decide +kernel
theorem dX10_piece_60 : decode cX10_piece 60 = .ok (.iaload, 1) := by decide +kernel
theorem dX10_piece_61 : decode cX10_piece 61 = .ok (.ireturn, 1) := by decide +kernel
theorem dX10_piece_62 : decode cX10_piece 62 = .ok (.aload_n 0, 1) := by decide +kernel
theorem dX10_piece_63 : decode cX10_piece 63 = .ok (.getfield 42, 3) := by decide +kernel
theorem dX10_piece_66 : decode cX10_piece 66 = .ok (.getfield 172, 3) := by decide +kernel
theorem dX10_piece_69 : decode cX10_piece 69 = .ok (.iload_n 1, 1) := by decide +kernel
theorem dX10_piece_70 : decode cX10_piece 70 = .ok (.iaload, 1) := by decide +kernel
theorem dX10_piece_71 : decode cX10_piece 71 = .ok (.ireturn, 1) := by decide +kernel
theorem dX10_piece_72 : decode cX10_piece 72 = .ok (.aload_n 0, 1) := by decide +kernel
theorem dX10_piece_73 : decode cX10_piece 73 = .ok (.getfield 42, 3) := by decide +kernel
theorem dX10_piece_76 : decode cX10_piece 76 = .ok (.getfield 175, 3) := by decide +kernel
theorem dX10_piece_79 : decode cX10_piece 79 = .ok (.iload_n 1, 1) := by decide +kernel
theorem dX10_piece_80 : decode cX10_piece 80 = .ok (.iaload, 1) := by decide +kernel
theorem dX10_piece_81 : decode cX10_piece 81 = .ok (.ireturn, 1) := by decide +kernel
theorem dX10_piece_82 : decode cX10_piece 82 = .ok (.iconst (-1), 1) := by decide +kernel
theorem dX10_piece_83 : decode cX10_piece 83 = .ok (.ireturn, 1) := by decide +kernel
set_option maxRecDepth 20000 in
theorem ggX10_notch_X10_within : GoodIn wsX10_notch wsX10_within := goodIn_r _ [7] (by decide +kernel) (by decide +kernel)
set_option maxRecDepth 20000 in
theorem gX10_notch_X10_within : GoodIn wsX10_notch (va_wsS RX10 95 yX10_within wsX10_within) := goodIn_app (goodIn_of _ (by decide +kernel)) ggX10_notch_X10_within
theorem dX10_notch_0 : decode cX10_notch 0 = .ok (.iload_n 1, 1) := by decide +kernel
theorem dX10_notch_1 : decode cX10_notch 1 = .ok (.iconst 0, 1) := by decide +kernel
theorem dX10_notch_2 : decode cX10_notch 2 = .ok (.aload_n 0, 1) := by decide +kernel
theorem dX10_notch_3 : decode cX10_notch 3 = .ok (.getfield 12, 3) := by decide +kernel
theorem dX10_notch_6 : decode cX10_notch 6 = .ok (.getfield 103, 3) := by decide +kernel
theorem dX10_notch_9 : decode cX10_notch 9 = .ok (.iconst 1, 1) := by decide +kernel
theorem dX10_notch_10 : decode cX10_notch 10 = .ok (.isub, 1) := by decide +kernel
theorem dX10_notch_11 : decode cX10_notch 11 = .ok (.invokestatic 95, 3) := by decide +kernel
theorem dX10_notch_14 : decode cX10_notch 14 = .ok (.ifCond .eq 15, 3) := by decide +kernel
theorem dX10_notch_17 : decode cX10_notch 17 = .ok (.aload_n 0, 1) := by decide +kernel
theorem dX10_notch_18 : decode cX10_notch 18 = .ok (.getfield 12, 3) := by decide +kernel
theorem dX10_notch_21 : decode cX10_notch 21 = .ok (.getfield 177, 3) := by decide +kernel
theorem dX10_notch_24 : decode cX10_notch 24 = .ok (.iload_n 1, 1) := by decide +kernel
theorem dX10_notch_25 : decode cX10_notch 25 = .ok (.iaload, 1) := by decide +kernel
theorem dX10_notch_26 : decode cX10_notch 26 = .ok (.goto 4, 3) := by decide +kernel
theorem dX10_notch_29 : decode cX10_notch 29 = .ok (.iconst (-1), 1) := by decide +kernel
theorem dX10_notch_30 : decode cX10_notch 30 = .ok (.ireturn, 1) := by decide +kernel
set_option maxRecDepth 20000 in
theorem ggX10_rate_X10_within : GoodIn wsX10_rate wsX10_within := goodIn_r _ [6] (by decide +kernel) (by decide +kernel)
set_option maxRecDepth 20000 in
theorem gX10_rate_X10_within : GoodIn wsX10_rate (va_wsS RX10 95 yX10_within wsX10_within) := goodIn_app (goodIn_of _ (by decide +kernel)) ggX10_rate_X10_within
set_option maxRecDepth 20000 in
theorem ggX10_rate_X0_forget : GoodIn wsX10_rate wsX0_forget := goodIn_r _ [11, 12, 42, 43, 44] (by decide +kernel) (by decide +kernel)
set_option maxRecDepth 20000 in
theorem gX10_rate_X0_forget : GoodIn wsX10_rate (wsV RX10 106 RX0 yX0_forget wsX0_forget) := goodIn_app (goodIn_of _ (by decide +kernel)) ggX10_rate_X0_forget
set_option maxRecDepth 20000 in
theorem ggX10_rate_X3_set : GoodIn wsX10_rate wsX3_set := goodIn_r _ [17, 18, 19, 20, 21, 22, 23, 16, 24, 25, 45, 46, 47, 48] (by decide +kernel) (by decide +kernel)
set_option maxRecDepth 20000 in
theorem gX10_rate_X3_set : GoodIn wsX10_rate (wsV RX10 180 RX3 yX3_set wsX3_set) := goodIn_app (goodIn_of _ (by decide +kernel)) ggX10_rate_X3_set
theorem dX10_rate_0 : decode cX10_rate 0 = .ok (.iload_n 1, 1) := by decide +kernel
theorem dX10_rate_1 : decode cX10_rate 1 = .ok (.iconst 0, 1) := by decide +kernel
theorem dX10_rate_2 : decode cX10_rate 2 = .ok (.iconst 2, 1) := by decide +kernel
theorem dX10_rate_3 : decode cX10_rate 3 = .ok (.invokestatic 95, 3) := by decide +kernel
theorem dX10_rate_6 : decode cX10_rate 6 = .ok (.ifCond .eq 30, 3) := by decide +kernel
theorem dX10_rate_9 : decode cX10_rate 9 = .ok (.iload_n 2, 1) := by decide +kernel
theorem dX10_rate_10 : decode cX10_rate 10 = .ok (.iload_n 1, 1) := by decide +kernel
theorem dX10_rate_11 : decode cX10_rate 11 = .ok (.ifCond .ne 7, 3) := by decide +kernel
theorem dX10_rate_14 : decode cX10_rate 14 = .ok (.iconst 1, 1) := by decide +kernel
theorem dX10_rate_15 : decode cX10_rate 15 = .ok (.goto 4, 3) := by decide +kernel
theorem dX10_rate_18 : decode cX10_rate 18 = .ok (.iconst 0, 1) := by decide +kernel
theorem dX10_rate_19 : decode cX10_rate 19 = .ok (.iload_n 1, 1) := by decide +kernel
theorem dX10_rate_20 : decode cX10_rate 20 = .ok (.ifCond .ne 8, 3) := by decide +kernel
theorem dX10_rate_23 : decode cX10_rate 23 = .ok (.bipush 9, 2) := by decide +kernel
theorem dX10_rate_25 : decode cX10_rate 25 = .ok (.goto 5, 3) := by decide +kernel
theorem dX10_rate_28 : decode cX10_rate 28 = .ok (.bipush 127, 2) := by decide +kernel
theorem dX10_rate_30 : decode cX10_rate 30 = .ok (.invokestatic 95, 3) := by decide +kernel
theorem dX10_rate_33 : decode cX10_rate 33 = .ok (.ifCond .ne 5, 3) := by decide +kernel
theorem dX10_rate_36 : decode cX10_rate 36 = .ok (.iconst (-1), 1) := by decide +kernel
theorem dX10_rate_37 : decode cX10_rate 37 = .ok (.ireturn, 1) := by decide +kernel
theorem dX10_rate_38 : decode cX10_rate 38 = .ok (.aload_n 0, 1) := by decide +kernel
theorem dX10_rate_39 : decode cX10_rate 39 = .ok (.getfield 70, 3) := by decide +kernel
theorem dX10_rate_42 : decode cX10_rate 42 = .ok (.invokevirtual 106, 3) := by decide +kernel
theorem dX10_rate_45 : decode cX10_rate 45 = .ok (.aload_n 0, 1) := by decide +kernel
theorem dX10_rate_46 : decode cX10_rate 46 = .ok (.getfield 19, 3) := by decide +kernel
theorem dX10_rate_49 : decode cX10_rate 49 = .ok (.iload_n 1, 1) := by decide +kernel
theorem dX10_rate_50 : decode cX10_rate 50 = .ok (.iload_n 2, 1) := by decide +kernel
theorem dX10_rate_51 : decode cX10_rate 51 = .ok (.invokevirtual 180, 3) := by decide +kernel
theorem dX10_rate_54 : decode cX10_rate 54 = .ok (.ireturn, 1) := by decide +kernel
set_option maxRecDepth 20000 in
theorem ggX10_due_X10_within : GoodIn wsX10_due wsX10_within := goodIn_r _ [6] (by decide +kernel) (by decide +kernel)
set_option maxRecDepth 20000 in
theorem gX10_due_X10_within : GoodIn wsX10_due (va_wsS RX10 95 yX10_within wsX10_within) := goodIn_app (goodIn_of _ (by decide +kernel)) ggX10_due_X10_within
theorem dX10_due_0 : decode cX10_due 0 = .ok (.iload_n 1, 1) := by decide +kernel
theorem dX10_due_1 : decode cX10_due 1 = .ok (.iconst 1, 1) := by decide +kernel
theorem dX10_due_2 : decode cX10_due 2 = .ok (.bipush 60, 2) := by decide +kernel
theorem dX10_due_4 : decode cX10_due 4 = .ok (.invokestatic 95, 3) := by decide +kernel
theorem dX10_due_7 : decode cX10_due 7 = .ok (.ifCond .eq 15, 3) := by decide +kernel
theorem dX10_due_10 : decode cX10_due 10 = .ok (.aload_n 0, 1) := by decide +kernel
theorem dX10_due_11 : decode cX10_due 11 = .ok (.getfield 19, 3) := by decide +kernel
theorem dX10_due_14 : decode cX10_due 14 = .ok (.getfield 184, 3) := by decide +kernel
theorem dX10_due_17 : decode cX10_due 17 = .ok (.iload_n 1, 1) := by decide +kernel
theorem dX10_due_18 : decode cX10_due 18 = .ok (.iaload, 1) := by decide +kernel
theorem dX10_due_19 : decode cX10_due 19 = .ok (.goto 4, 3) := by decide +kernel
theorem dX10_due_22 : decode cX10_due 22 = .ok (.iconst (-1), 1) := by decide +kernel
theorem dX10_due_23 : decode cX10_due 23 = .ok (.ireturn, 1) := by decide +kernel
set_option maxRecDepth 20000 in
theorem ggX10_pays_X10_within : GoodIn wsX10_pays wsX10_within := goodIn_r _ [6] (by decide +kernel) (by decide +kernel)
set_option maxRecDepth 20000 in
theorem gX10_pays_X10_within : GoodIn wsX10_pays (va_wsS RX10 95 yX10_within wsX10_within) := goodIn_app (goodIn_of _ (by decide +kernel)) ggX10_pays_X10_within
set_option maxRecDepth 20000 in
theorem ggX10_pays_X10_divide : GoodIn wsX10_pays wsX10_divide := goodIn_r _ [10, 2, 11, 12, 13, 14, 15, 16, 17, 18, 19, 20, 21, 22, 23, 24, 25, 26, 27, 28, 29, 30, 31, 32, 33, 34, 35, 36, 37, 38, 39, 40, 41, 42, 43, 44, 66, 67, 68, 69, 70, 71, 72, 73, 74, 75, 76, 77, 78, 79, 80, 81, 82, 83, 84, 85, 86, 87, 88, 89, 90, 91] (by decide +kernel) (by decide +kernel)
set_option maxRecDepth 20000 in
theorem gX10_pays_X10_divide : GoodIn wsX10_pays (wsV RX10 160 RX10 yX10_divide wsX10_divide) := goodIn_app (goodIn_of _ (by decide +kernel)) ggX10_pays_X10_divide
set_option maxRecDepth 20000 in
theorem ggX10_pays_X8_load : GoodIn wsX10_pays wsX8_load := goodIn_r _ [49, 50, 51, 52, 53, 54, 55, 56, 17, 57, 19, 34, 58, 59, 60, 48, 61, 92, 93, 88, 89, 90, 91] (by decide +kernel) (by decide +kernel)
set_option maxRecDepth 20000 in
theorem gX10_pays_X8_load : GoodIn wsX10_pays (wsV RX10 187 RX8 yX8_load wsX8_load) := goodIn_app (goodIn_of _ (by decide +kernel)) ggX10_pays_X8_load
set_option maxRecDepth 20000 in
theorem ggX10_pays_X8_has : GoodIn wsX10_pays wsX8_has := goodIn_r _ [65, 50, 51, 92, 93] (by decide +kernel) (by decide +kernel)
set_option maxRecDepth 20000 in
theorem gX10_pays_X8_has : GoodIn wsX10_pays (wsV RX10 191 RX8 yX8_has wsX8_has) := goodIn_app (goodIn_of _ (by decide +kernel)) ggX10_pays_X8_has
theorem dX10_pays_0 : decode cX10_pays 0 = .ok (.iload_n 1, 1) := by decide +kernel
theorem dX10_pays_1 : decode cX10_pays 1 = .ok (.iconst 0, 1) := by decide +kernel
theorem dX10_pays_2 : decode cX10_pays 2 = .ok (.sipush 999, 3) := by decide +kernel
theorem dX10_pays_5 : decode cX10_pays 5 = .ok (.invokestatic 95, 3) := by decide +kernel
theorem dX10_pays_8 : decode cX10_pays 8 = .ok (.ifCond .ne 5, 3) := by decide +kernel
theorem dX10_pays_11 : decode cX10_pays 11 = .ok (.iconst (-1), 1) := by decide +kernel
theorem dX10_pays_12 : decode cX10_pays 12 = .ok (.ireturn, 1) := by decide +kernel
theorem dX10_pays_13 : decode cX10_pays 13 = .ok (.aload_n 0, 1) := by decide +kernel
theorem dX10_pays_14 : decode cX10_pays 14 = .ok (.invokevirtual 160, 3) := by decide +kernel
theorem dX10_pays_17 : decode cX10_pays 17 = .ok (.aload_n 0, 1) := by decide +kernel
theorem dX10_pays_18 : decode cX10_pays 18 = .ok (.getfield 49, 3) := by decide +kernel
theorem dX10_pays_21 : decode cX10_pays 21 = .ok (.aload_n 0, 1) := by decide +kernel
theorem dX10_pays_22 : decode cX10_pays 22 = .ok (.getfield 42, 3) := by decide +kernel
theorem dX10_pays_25 : decode cX10_pays 25 = .ok (.invokevirtual 187, 3) := by decide +kernel
theorem dX10_pays_28 : decode cX10_pays 28 = .ok (.aload_n 0, 1) := by decide +kernel
theorem dX10_pays_29 : decode cX10_pays 29 = .ok (.getfield 49, 3) := by decide +kernel
theorem dX10_pays_32 : decode cX10_pays 32 = .ok (.iload_n 1, 1) := by decide +kernel
theorem dX10_pays_33 : decode cX10_pays 33 = .ok (.invokevirtual 191, 3) := by decide +kernel
theorem dX10_pays_36 : decode cX10_pays 36 = .ok (.ifCond .eq 7, 3) := by decide +kernel
theorem dX10_pays_39 : decode cX10_pays 39 = .ok (.iconst 1, 1) := by decide +kernel
theorem dX10_pays_40 : decode cX10_pays 40 = .ok (.goto 4, 3) := by decide +kernel
theorem dX10_pays_43 : decode cX10_pays 43 = .ok (.iconst 0, 1) := by decide +kernel
theorem dX10_pays_44 : decode cX10_pays 44 = .ok (.ireturn, 1) := by decide +kernel
set_option maxRecDepth 20000 in
theorem ggX10_far_X10_daysPaid : GoodIn wsX10_far wsX10_daysPaid := goodIn_r _ [5, 6, 7, 8, 9, 10, 11, 12, 4, 13, 14, 15, 16, 17, 18, 19, 20, 21, 22, 23, 24, 25, 26, 27, 28, 29, 30, 31, 32, 33, 34, 35, 36, 37, 38, 39, 40, 41, 42, 43, 44, 45, 46, 47, 48, 49, 50, 51, 52, 53, 54, 55, 56, 57, 58, 59, 60, 61, 62, 63, 64, 65, 66, 67, 68, 69, 70, 71, 72, 73, 74, 75, 76, 77, 78, 79, 80, 81, 82, 83, 84, 85, 86, 87, 88, 89, 90, 91, 92, 93, 94, 95, 96, 97, 98, 99, 100, 101, 102, 103, 104] (by decide +kernel) (by decide +kernel)
set_option maxRecDepth 20000 in
theorem gX10_far_X10_daysPaid : GoodIn wsX10_far (wsV RX10 194 RX10 yX10_daysPaid wsX10_daysPaid) := goodIn_app (goodIn_of _ (by decide +kernel)) ggX10_far_X10_daysPaid
theorem dX10_far_0 : decode cX10_far 0 = .ok (.aload_n 0, 1) := by decide +kernel
theorem dX10_far_1 : decode cX10_far 1 = .ok (.invokevirtual 194, 3) := by decide +kernel
theorem dX10_far_4 : decode cX10_far 4 = .ok (.ireturn, 1) := by decide +kernel
set_option maxRecDepth 20000 in
theorem ggX10_kept_X10_divide : GoodIn wsX10_kept wsX10_divide := goodIn_r _ [9, 2, 10, 11, 12, 13, 14, 15, 16, 17, 18, 19, 20, 21, 22, 23, 24, 25, 26, 27, 28, 29, 30, 31, 32, 33, 34, 35, 36, 37, 38, 39, 40, 41, 42, 43, 84, 85, 86, 87, 88, 89, 90, 91, 92, 93, 94, 95, 96, 97, 98, 99, 104, 105, 106, 107, 108, 109, 110, 111, 112, 113] (by decide +kernel) (by decide +kernel)
set_option maxRecDepth 20000 in
theorem gX10_kept_X10_divide : GoodIn wsX10_kept (wsV RX10 160 RX10 yX10_divide wsX10_divide) := goodIn_app (goodIn_of _ (by decide +kernel)) ggX10_kept_X10_divide
set_option maxRecDepth 20000 in
theorem ggX10_kept_X6_load : GoodIn wsX10_kept wsX6_load := goodIn_r _ [48, 49, 50, 51, 52, 53, 54, 55, 56, 57, 47, 58, 59, 60, 110, 111, 112, 113, 114, 115, 116, 117, 118, 119, 120, 121] (by decide +kernel) (by decide +kernel)
set_option maxRecDepth 20000 in
theorem gX10_kept_X6_load : GoodIn wsX10_kept (wsV RX10 197 RX6 yX6_load wsX6_load) := goodIn_app (goodIn_of _ (by decide +kernel)) ggX10_kept_X6_load
set_option maxRecDepth 20000 in
theorem ggX10_kept_X6_daysGrowing : GoodIn wsX10_kept wsX6_daysGrowing := goodIn_r _ [64, 65, 66, 67, 68, 47, 69, 60, 70, 71, 72, 73, 54, 59, 74, 8, 75, 76, 77, 78, 79, 80, 81, 82, 83, 114, 115, 116, 117, 118, 119, 120, 121] (by decide +kernel) (by decide +kernel)
set_option maxRecDepth 20000 in
theorem gX10_kept_X6_daysGrowing : GoodIn wsX10_kept (wsV RX10 198 RX6 yX6_daysGrowing wsX6_daysGrowing) := goodIn_app (goodIn_of _ (by decide +kernel)) ggX10_kept_X6_daysGrowing
theorem dX10_kept_0 : decode cX10_kept 0 = .ok (.aload_n 0, 1) := by decide +kernel
theorem dX10_kept_1 : decode cX10_kept 1 = .ok (.invokevirtual 160, 3) := by decide +kernel
theorem dX10_kept_4 : decode cX10_kept 4 = .ok (.aload_n 0, 1) := by decide +kernel
theorem dX10_kept_5 : decode cX10_kept 5 = .ok (.getfield 56, 3) := by decide +kernel
theorem dX10_kept_8 : decode cX10_kept 8 = .ok (.aload_n 0, 1) := by decide +kernel
theorem dX10_kept_9 : decode cX10_kept 9 = .ok (.getfield 42, 3) := by decide +kernel
theorem dX10_kept_12 : decode cX10_kept 12 = .ok (.invokevirtual 197, 3) := by decide +kernel
theorem dX10_kept_15 : decode cX10_kept 15 = .ok (.aload_n 0, 1) := by decide +kernel
theorem dX10_kept_16 : decode cX10_kept 16 = .ok (.getfield 56, 3) := by decide +kernel
theorem dX10_kept_19 : decode cX10_kept 19 = .ok (.aload_n 0, 1) := by decide +kernel
theorem dX10_kept_20 : decode cX10_kept 20 = .ok (.getfield 19, 3) := by decide +kernel
theorem dX10_kept_23 : decode cX10_kept 23 = .ok (.getfield 184, 3) := by decide +kernel
theorem dX10_kept_26 : decode cX10_kept 26 = .ok (.invokevirtual 198, 3) := by decide +kernel
theorem dX10_kept_29 : decode cX10_kept 29 = .ok (.ireturn, 1) := by decide +kernel
set_option maxRecDepth 20000 in
theorem ggX10_two_X10_within : GoodIn wsX10_two wsX10_within := goodIn_r _ [8] (by decide +kernel) (by decide +kernel)
set_option maxRecDepth 20000 in
theorem gX10_two_X10_within : GoodIn wsX10_two (va_wsS RX10 95 yX10_within wsX10_within) := goodIn_app (goodIn_of _ (by decide +kernel)) ggX10_two_X10_within
set_option maxRecDepth 20000 in
theorem ggX10_two_X10_divide : GoodIn wsX10_two wsX10_divide := goodIn_r _ [12, 2, 13, 14, 15, 16, 17, 18, 19, 20, 21, 22, 23, 24, 25, 26, 27, 28, 29, 30, 31, 32, 33, 34, 35, 36, 37, 38, 39, 40, 41, 42, 43, 44, 45, 46, 80, 81, 82, 83, 84, 85, 86, 87, 88, 89, 90, 91, 92, 93, 94, 95, 100, 101, 102, 103, 104, 105, 106, 107, 108, 109] (by decide +kernel) (by decide +kernel)
set_option maxRecDepth 20000 in
theorem gX10_two_X10_divide : GoodIn wsX10_two (wsV RX10 160 RX10 yX10_divide wsX10_divide) := goodIn_app (goodIn_of _ (by decide +kernel)) ggX10_two_X10_divide
set_option maxRecDepth 20000 in
theorem ggX10_two_X6_load : GoodIn wsX10_two wsX6_load := goodIn_r _ [51, 52, 53, 54, 55, 56, 57, 58, 59, 60, 50, 61, 62, 63, 106, 107, 108, 109, 110, 111, 112, 113, 114, 115, 116, 117] (by decide +kernel) (by decide +kernel)
set_option maxRecDepth 20000 in
theorem gX10_two_X6_load : GoodIn wsX10_two (wsV RX10 197 RX6 yX6_load wsX6_load) := goodIn_app (goodIn_of _ (by decide +kernel)) ggX10_two_X6_load
set_option maxRecDepth 20000 in
theorem ggX10_two_X6_daysApart : GoodIn wsX10_two wsX6_daysApart := goodIn_r _ [67, 68, 69, 70, 50, 71, 57, 63, 72, 73, 74, 75, 62, 6, 7, 8, 76, 77, 78, 79, 110, 111, 112, 113, 114, 115, 116, 117] (by decide +kernel) (by decide +kernel)
set_option maxRecDepth 20000 in
theorem gX10_two_X6_daysApart : GoodIn wsX10_two (wsV RX10 202 RX6 yX6_daysApart wsX6_daysApart) := goodIn_app (goodIn_of _ (by decide +kernel)) ggX10_two_X6_daysApart
theorem dX10_two_0 : decode cX10_two 0 = .ok (.iload_n 1, 1) := by decide +kernel
theorem dX10_two_1 : decode cX10_two 1 = .ok (.iconst 1, 1) := by decide +kernel
theorem dX10_two_2 : decode cX10_two 2 = .ok (.bipush 9, 2) := by decide +kernel
theorem dX10_two_4 : decode cX10_two 4 = .ok (.invokestatic 95, 3) := by decide +kernel
theorem dX10_two_7 : decode cX10_two 7 = .ok (.ifCond .ne 5, 3) := by decide +kernel
theorem dX10_two_10 : decode cX10_two 10 = .ok (.iconst (-1), 1) := by decide +kernel
theorem dX10_two_11 : decode cX10_two 11 = .ok (.ireturn, 1) := by decide +kernel
theorem dX10_two_12 : decode cX10_two 12 = .ok (.aload_n 0, 1) := by decide +kernel
theorem dX10_two_13 : decode cX10_two 13 = .ok (.invokevirtual 160, 3) := by decide +kernel
theorem dX10_two_16 : decode cX10_two 16 = .ok (.aload_n 0, 1) := by decide +kernel
theorem dX10_two_17 : decode cX10_two 17 = .ok (.getfield 56, 3) := by decide +kernel
theorem dX10_two_20 : decode cX10_two 20 = .ok (.aload_n 0, 1) := by decide +kernel
theorem dX10_two_21 : decode cX10_two 21 = .ok (.getfield 42, 3) := by decide +kernel
theorem dX10_two_24 : decode cX10_two 24 = .ok (.invokevirtual 197, 3) := by decide +kernel
theorem dX10_two_27 : decode cX10_two 27 = .ok (.aload_n 0, 1) := by decide +kernel
theorem dX10_two_28 : decode cX10_two 28 = .ok (.getfield 56, 3) := by decide +kernel
theorem dX10_two_31 : decode cX10_two 31 = .ok (.aload_n 0, 1) := by decide +kernel
theorem dX10_two_32 : decode cX10_two 32 = .ok (.getfield 19, 3) := by decide +kernel
theorem dX10_two_35 : decode cX10_two 35 = .ok (.getfield 184, 3) := by decide +kernel
theorem dX10_two_38 : decode cX10_two 38 = .ok (.iload_n 1, 1) := by decide +kernel
theorem dX10_two_39 : decode cX10_two 39 = .ok (.invokevirtual 202, 3) := by decide +kernel
theorem dX10_two_42 : decode cX10_two 42 = .ok (.ireturn, 1) := by decide +kernel
set_option maxRecDepth 20000 in
theorem ggX10_most_X10_within : GoodIn wsX10_most wsX10_within := goodIn_r _ [8] (by decide +kernel) (by decide +kernel)
set_option maxRecDepth 20000 in
theorem gX10_most_X10_within : GoodIn wsX10_most (va_wsS RX10 95 yX10_within wsX10_within) := goodIn_app (goodIn_of _ (by decide +kernel)) ggX10_most_X10_within
set_option maxRecDepth 20000 in
theorem ggX10_most_X1_notches : GoodIn wsX10_most wsX1_notches := goodIn_r _ [13, 14, 15, 16, 17, 12, 18, 19, 136, 137, 138, 139, 140, 141] (by decide +kernel) (by decide +kernel)
set_option maxRecDepth 20000 in
theorem gX10_most_X1_notches : GoodIn wsX10_most (wsV RX10 156 RX1 yX1_notches wsX1_notches) := goodIn_app (goodIn_of _ (by decide +kernel)) ggX10_most_X1_notches
set_option maxRecDepth 20000 in
theorem ggX10_most_X10_findBest : GoodIn wsX10_most wsX10_findBest := goodIn_r _ [23, 2, 24, 3, 25, 1, 26, 27, 28, 29, 30, 31, 32, 33, 34, 12, 35, 36, 14, 37, 38, 39, 40, 41, 42, 9, 10, 11, 13, 15, 16, 17, 18, 19, 43, 44, 45, 46, 47, 48, 49, 50, 51, 52, 53, 54, 55, 56, 57, 58, 59, 60, 61, 62, 63, 64, 65, 66, 67, 68, 69, 70, 71, 72, 73, 74, 75, 76, 77, 78, 79, 80, 81, 82, 83, 84, 85, 86, 87, 88, 89, 90, 91, 92, 93, 94, 95, 96, 97, 98, 99, 100, 101, 102, 103, 104, 105, 106, 107, 108, 109, 110, 111, 112, 113, 114, 115, 116, 117, 118, 119, 120, 121, 122, 123, 124, 125, 126, 127, 128, 129, 130, 131, 132, 133, 134, 135, 142, 143, 144, 145, 146, 147, 148, 136, 137, 138, 139, 140, 141, 149, 150, 151, 152, 153, 154] (by decide +kernel) (by decide +kernel)
set_option maxRecDepth 20000 in
theorem gX10_most_X10_findBest : GoodIn wsX10_most (wsV RX10 206 RX10 yX10_findBest wsX10_findBest) := goodIn_app (goodIn_of _ (by decide +kernel)) ggX10_most_X10_findBest
theorem dX10_most_0 : decode cX10_most 0 = .ok (.iload_n 1, 1) := by decide +kernel
theorem dX10_most_1 : decode cX10_most 1 = .ok (.iconst 0, 1) := by decide +kernel
theorem dX10_most_2 : decode cX10_most 2 = .ok (.iconst 4, 1) := by decide +kernel
theorem dX10_most_3 : decode cX10_most 3 = .ok (.invokestatic 95, 3) := by decide +kernel
theorem dX10_most_6 : decode cX10_most 6 = .ok (.ifCond .eq 12, 3) := by decide +kernel
theorem dX10_most_9 : decode cX10_most 9 = .ok (.iload_n 2, 1) := by decide +kernel
theorem dX10_most_10 : decode cX10_most 10 = .ok (.iconst (-1), 1) := by decide +kernel
theorem dX10_most_11 : decode cX10_most 11 = .ok (.iconst 3, 1) := by decide +kernel
theorem dX10_most_12 : decode cX10_most 12 = .ok (.invokestatic 95, 3) := by decide +kernel
theorem dX10_most_15 : decode cX10_most 15 = .ok (.ifCond .ne 5, 3) := by decide +kernel
theorem dX10_most_18 : decode cX10_most 18 = .ok (.iconst (-1), 1) := by decide +kernel
theorem dX10_most_19 : decode cX10_most 19 = .ok (.ireturn, 1) := by decide +kernel
theorem dX10_most_20 : decode cX10_most 20 = .ok (.iload_n 1, 1) := by decide +kernel
theorem dX10_most_21 : decode cX10_most 21 = .ok (.aload_n 0, 1) := by decide +kernel
theorem dX10_most_22 : decode cX10_most 22 = .ok (.getfield 12, 3) := by decide +kernel
theorem dX10_most_25 : decode cX10_most 25 = .ok (.invokevirtual 156, 3) := by decide +kernel
theorem dX10_most_28 : decode cX10_most 28 = .ok (.if_icmp .gt 8, 3) := by decide +kernel
theorem dX10_most_31 : decode cX10_most 31 = .ok (.iload_n 2, 1) := by decide +kernel
theorem dX10_most_32 : decode cX10_most 32 = .ok (.iload_n 1, 1) := by decide +kernel
theorem dX10_most_33 : decode cX10_most 33 = .ok (.if_icmp .lt 6, 3) := by decide +kernel
theorem dX10_most_36 : decode cX10_most 36 = .ok (.bipush (-4), 2) := by decide +kernel
theorem dX10_most_38 : decode cX10_most 38 = .ok (.ireturn, 1) := by decide +kernel
theorem dX10_most_39 : decode cX10_most 39 = .ok (.aload_n 0, 1) := by decide +kernel
theorem dX10_most_40 : decode cX10_most 40 = .ok (.iload_n 1, 1) := by decide +kernel
theorem dX10_most_41 : decode cX10_most 41 = .ok (.invokevirtual 206, 3) := by decide +kernel
theorem dX10_most_44 : decode cX10_most 44 = .ok (.iload_n 2, 1) := by decide +kernel
theorem dX10_most_45 : decode cX10_most 45 = .ok (.ifCond .ge 15, 3) := by decide +kernel
theorem dX10_most_48 : decode cX10_most 48 = .ok (.aload_n 0, 1) := by decide +kernel
theorem dX10_most_49 : decode cX10_most 49 = .ok (.getfield 70, 3) := by decide +kernel
theorem dX10_most_52 : decode cX10_most 52 = .ok (.getfield 209, 3) := by decide +kernel
theorem dX10_most_55 : decode cX10_most 55 = .ok (.iload_n 1, 1) := by decide +kernel
theorem dX10_most_56 : decode cX10_most 56 = .ok (.iaload, 1) := by decide +kernel
theorem dX10_most_57 : decode cX10_most 57 = .ok (.goto 14, 3) := by decide +kernel
theorem dX10_most_60 : decode cX10_most 60 = .ok (.aload_n 0, 1) := by decide +kernel
theorem dX10_most_61 : decode cX10_most 61 = .ok (.getfield 70, 3) := by decide +kernel
theorem dX10_most_64 : decode cX10_most 64 = .ok (.getfield 212, 3) := by decide +kernel
theorem dX10_most_67 : decode cX10_most 67 = .ok (.iload_n 1, 1) := by decide +kernel
theorem dX10_most_68 : decode cX10_most 68 = .ok (.aaload, 1) := by decide +kernel
theorem dX10_most_69 : decode cX10_most 69 = .ok (.iload_n 2, 1) := by decide +kernel
theorem dX10_most_70 : decode cX10_most 70 = .ok (.iaload, 1) := by decide +kernel
theorem dX10_most_71 : decode cX10_most 71 = .ok (.ireturn, 1) := by decide +kernel
set_option maxRecDepth 20000 in
theorem ggX10_fewest_X10_within : GoodIn wsX10_fewest wsX10_within := goodIn_r _ [8] (by decide +kernel) (by decide +kernel)
set_option maxRecDepth 20000 in
theorem gX10_fewest_X10_within : GoodIn wsX10_fewest (va_wsS RX10 95 yX10_within wsX10_within) := goodIn_app (goodIn_of _ (by decide +kernel)) ggX10_fewest_X10_within
set_option maxRecDepth 20000 in
theorem ggX10_fewest_X1_whole : GoodIn wsX10_fewest wsX1_whole := goodIn_r _ [13, 14, 15, 135, 136, 137, 138, 139, 140] (by decide +kernel) (by decide +kernel)
set_option maxRecDepth 20000 in
theorem gX10_fewest_X1_whole : GoodIn wsX10_fewest (wsV RX10 216 RX1 yX1_whole wsX1_whole) := goodIn_app (goodIn_of _ (by decide +kernel)) ggX10_fewest_X1_whole
set_option maxRecDepth 20000 in
theorem ggX10_fewest_X3_coveredBy : GoodIn wsX10_fewest wsX3_coveredBy := goodIn_r _ [20, 21, 141, 142, 143, 144] (by decide +kernel) (by decide +kernel)
set_option maxRecDepth 20000 in
theorem gX10_fewest_X3_coveredBy : GoodIn wsX10_fewest (wsV RX10 217 RX3 yX3_coveredBy wsX3_coveredBy) := goodIn_app (goodIn_of _ (by decide +kernel)) ggX10_fewest_X3_coveredBy
set_option maxRecDepth 20000 in
theorem ggX10_fewest_X1_notches : GoodIn wsX10_fewest wsX1_notches := goodIn_r _ [25, 15, 26, 27, 28, 12, 29, 30, 135, 136, 137, 138, 139, 140] (by decide +kernel) (by decide +kernel)
set_option maxRecDepth 20000 in
theorem gX10_fewest_X1_notches : GoodIn wsX10_fewest (wsV RX10 156 RX1 yX1_notches wsX1_notches) := goodIn_app (goodIn_of _ (by decide +kernel)) ggX10_fewest_X1_notches
set_option maxRecDepth 20000 in
theorem ggX10_fewest_X10_findBest : GoodIn wsX10_fewest wsX10_findBest := goodIn_r _ [34, 3, 35, 4, 1, 2, 36, 37, 38, 39, 40, 41, 9, 10, 11, 12, 13, 14, 15, 16, 17, 18, 19, 20, 21, 22, 23, 24, 25, 26, 27, 28, 29, 30, 42, 43, 44, 45, 46, 47, 48, 49, 50, 51, 52, 53, 54, 55, 56, 57, 58, 59, 60, 61, 62, 63, 64, 65, 66, 67, 68, 69, 70, 71, 72, 73, 74, 75, 76, 77, 78, 79, 80, 81, 82, 83, 84, 85, 86, 87, 88, 89, 90, 91, 92, 93, 94, 95, 96, 97, 98, 99, 100, 101, 102, 103, 104, 105, 106, 107, 108, 109, 110, 111, 112, 113, 114, 115, 116, 117, 118, 119, 120, 121, 122, 123, 124, 125, 126, 127, 128, 129, 130, 131, 132, 133, 134, 145, 146, 147, 141, 142, 143, 144, 135, 136, 137, 138, 139, 140, 148, 149, 150, 151, 152, 153] (by decide +kernel) (by decide +kernel)
set_option maxRecDepth 20000 in
theorem gX10_fewest_X10_findBest : GoodIn wsX10_fewest (wsV RX10 206 RX10 yX10_findBest wsX10_findBest) := goodIn_app (goodIn_of _ (by decide +kernel)) ggX10_fewest_X10_findBest
theorem dX10_fewest_0 : decode cX10_fewest 0 = .ok (.iload_n 1, 1) := by decide +kernel
theorem dX10_fewest_1 : decode cX10_fewest 1 = .ok (.iconst 0, 1) := by decide +kernel
theorem dX10_fewest_2 : decode cX10_fewest 2 = .ok (.bipush 60, 2) := by decide +kernel
theorem dX10_fewest_4 : decode cX10_fewest 4 = .ok (.invokestatic 95, 3) := by decide +kernel
theorem dX10_fewest_7 : decode cX10_fewest 7 = .ok (.ifCond .ne 5, 3) := by decide +kernel
theorem dX10_fewest_10 : decode cX10_fewest 10 = .ok (.iconst (-1), 1) := by decide +kernel
theorem dX10_fewest_11 : decode cX10_fewest 11 = .ok (.ireturn, 1) := by decide +kernel
theorem dX10_fewest_12 : decode cX10_fewest 12 = .ok (.iload_n 1, 1) := by decide +kernel
theorem dX10_fewest_13 : decode cX10_fewest 13 = .ok (.aload_n 0, 1) := by decide +kernel
theorem dX10_fewest_14 : decode cX10_fewest 14 = .ok (.getfield 19, 3) := by decide +kernel
theorem dX10_fewest_17 : decode cX10_fewest 17 = .ok (.aload_n 0, 1) := by decide +kernel
theorem dX10_fewest_18 : decode cX10_fewest 18 = .ok (.getfield 12, 3) := by decide +kernel
theorem dX10_fewest_21 : decode cX10_fewest 21 = .ok (.invokevirtual 216, 3) := by decide +kernel
theorem dX10_fewest_24 : decode cX10_fewest 24 = .ok (.invokevirtual 217, 3) := by decide +kernel
theorem dX10_fewest_27 : decode cX10_fewest 27 = .ok (.if_icmp .le 6, 3) := by decide +kernel
theorem dX10_fewest_30 : decode cX10_fewest 30 = .ok (.bipush (-4), 2) := by decide +kernel
theorem dX10_fewest_32 : decode cX10_fewest 32 = .ok (.ireturn, 1) := by decide +kernel
theorem dX10_fewest_33 : decode cX10_fewest 33 = .ok (.iconst 0, 1) := by decide +kernel
theorem dX10_fewest_34 : decode cX10_fewest 34 = .ok (.istore_n 2, 1) := by decide +kernel
theorem dX10_fewest_35 : decode cX10_fewest 35 = .ok (.iload_n 2, 1) := by decide +kernel
theorem dX10_fewest_36 : decode cX10_fewest 36 = .ok (.iconst 4, 1) := by decide +kernel
theorem dX10_fewest_37 : decode cX10_fewest 37 = .ok (.if_icmp .gt 40, 3) := by decide +kernel
theorem dX10_fewest_40 : decode cX10_fewest 40 = .ok (.iload_n 2, 1) := by decide +kernel
theorem dX10_fewest_41 : decode cX10_fewest 41 = .ok (.aload_n 0, 1) := by decide +kernel
theorem dX10_fewest_42 : decode cX10_fewest 42 = .ok (.getfield 12, 3) := by decide +kernel
theorem dX10_fewest_45 : decode cX10_fewest 45 = .ok (.invokevirtual 156, 3) := by decide +kernel
theorem dX10_fewest_48 : decode cX10_fewest 48 = .ok (.if_icmp .gt 29, 3) := by decide +kernel
theorem dX10_fewest_51 : decode cX10_fewest 51 = .ok (.aload_n 0, 1) := by decide +kernel
theorem dX10_fewest_52 : decode cX10_fewest 52 = .ok (.iload_n 2, 1) := by decide +kernel
theorem dX10_fewest_53 : decode cX10_fewest 53 = .ok (.invokevirtual 206, 3) := by decide +kernel
theorem dX10_fewest_56 : decode cX10_fewest 56 = .ok (.aload_n 0, 1) := by decide +kernel
theorem dX10_fewest_57 : decode cX10_fewest 57 = .ok (.getfield 70, 3) := by decide +kernel
theorem dX10_fewest_60 : decode cX10_fewest 60 = .ok (.getfield 209, 3) := by decide +kernel
theorem dX10_fewest_63 : decode cX10_fewest 63 = .ok (.iload_n 2, 1) := by decide +kernel
theorem dX10_fewest_64 : decode cX10_fewest 64 = .ok (.iaload, 1) := by decide +kernel

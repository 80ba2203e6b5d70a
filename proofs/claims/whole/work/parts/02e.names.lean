theorem dX9_anew_13 : decode cX9_anew 13 = .ok (.iload_n 1, 1) := by decide +kernel
theorem dX9_anew_14 : decode cX9_anew 14 = .ok (.iconst 4, 1) := by decide +kernel
theorem dX9_anew_15 : decode cX9_anew 15 = .ok (.irem, 1) := by decide +kernel
theorem dX9_anew_16 : decode cX9_anew 16 = .ok (.iconst 1, 1) := by decide +kernel
theorem dX9_anew_17 : decode cX9_anew 17 = .ok (.if_icmp .ne 8, 3) := by decide +kernel
theorem dX9_anew_20 : decode cX9_anew 20 = .ok (.bipush (-9), 2) := by decide +kernel
theorem dX9_anew_22 : decode cX9_anew 22 = .ok (.goto 4, 3) := by decide +kernel
theorem dX9_anew_25 : decode cX9_anew 25 = .ok (.iconst 0, 1) := by decide +kernel
theorem dX9_anew_26 : decode cX9_anew 26 = .ok (.iastore, 1) := by decide +kernel
theorem dX9_anew_27 : decode cX9_anew 27 = .ok (.iinc 1 1, 3) := by decide +kernel
theorem dX9_anew_30 : decode cX9_anew 30 = .ok (.goto (-28), 3) := by decide +kernel
theorem dX9_anew_33 : decode cX9_anew 33 = .ok (.aload_n 0, 1) := by decide +kernel
theorem dX9_anew_34 : decode cX9_anew 34 = .ok (.iconst 0, 1) := by decide +kernel
theorem dX9_anew_35 : decode cX9_anew 35 = .ok (.putfield 109, 3) := by decide +kernel
theorem dX9_anew_38 : decode cX9_anew 38 = .ok (.aload_n 0, 1) := by decide +kernel
theorem dX9_anew_39 : decode cX9_anew 39 = .ok (.iconst 0, 1) := by decide +kernel
theorem dX9_anew_40 : decode cX9_anew 40 = .ok (.putfield 112, 3) := by decide +kernel
theorem dX9_anew_43 : decode cX9_anew 43 = .ok (.aload_n 0, 1) := by decide +kernel
theorem dX9_anew_44 : decode cX9_anew 44 = .ok (.getfield 40, 3) := by decide +kernel
theorem dX9_anew_47 : decode cX9_anew 47 = .ok (.iconst 0, 1) := by decide +kernel
theorem dX9_anew_48 : decode cX9_anew 48 = .ok (.iconst 0, 1) := by decide +kernel
theorem dX9_anew_49 : decode cX9_anew 49 = .ok (.iastore, 1) := by decide +kernel
theorem dX9_anew_50 : decode cX9_anew 50 = .ok (.aload_n 0, 1) := by decide +kernel
theorem dX9_anew_51 : decode cX9_anew 51 = .ok (.getfield 40, 3) := by decide +kernel
theorem dX9_anew_54 : decode cX9_anew 54 = .ok (.sipush 277, 3) := by decide +kernel
theorem dX9_anew_57 : decode cX9_anew 57 = .ok (.iconst 0, 1) := by decide +kernel
theorem dX9_anew_58 : decode cX9_anew 58 = .ok (.iastore, 1) := by decide +kernel
theorem dX9_anew_59 : decode cX9_anew 59 = .ok (.return_, 1) := by decide +kernel
set_option maxRecDepth 20000 in
theorem ggX9_isRoom_X9_in : GoodIn wsX9_isRoom wsX9_in := goodIn_r _ [5] (by decide +kernel) (by decide +kernel)
set_option maxRecDepth 20000 in
theorem gX9_isRoom_X9_in : GoodIn wsX9_isRoom (va_wsS RX9 48 yX9_in wsX9_in) := goodIn_app (goodIn_of _ (by decide +kernel)) ggX9_isRoom_X9_in
theorem dX9_isRoom_0 : decode cX9_isRoom 0 = .ok (.iload_n 1, 1) := by decide +kernel
theorem dX9_isRoom_1 : decode cX9_isRoom 1 = .ok (.i2l, 1) := by decide +kernel
theorem dX9_isRoom_2 : decode cX9_isRoom 2 = .ok (.lconst 0, 1) := by decide +kernel
theorem dX9_isRoom_3 : decode cX9_isRoom 3 = .ok (.aload_n 0, 1) := by decide +kernel
theorem dX9_isRoom_4 : decode cX9_isRoom 4 = .ok (.getfield 16, 3) := by decide +kernel
theorem dX9_isRoom_7 : decode cX9_isRoom 7 = .ok (.iconst 0, 1) := by decide +kernel
theorem dX9_isRoom_8 : decode cX9_isRoom 8 = .ok (.iaload, 1) := by decide +kernel
theorem dX9_isRoom_9 : decode cX9_isRoom 9 = .ok (.iconst 1, 1) := by decide +kernel
theorem dX9_isRoom_10 : decode cX9_isRoom 10 = .ok (.isub, 1) := by decide +kernel
theorem dX9_isRoom_11 : decode cX9_isRoom 11 = .ok (.i2l, 1) := by decide +kernel
theorem dX9_isRoom_12 : decode cX9_isRoom 12 = .ok (.invokestatic 48, 3) := by decide +kernel
theorem dX9_isRoom_15 : decode cX9_isRoom 15 = .ok (.ireturn, 1) := by decide +kernel
set_option maxRecDepth 20000 in
theorem ggX9_isTenant_X9_in : GoodIn wsX9_isTenant wsX9_in := goodIn_r _ [5] (by decide +kernel) (by decide +kernel)
set_option maxRecDepth 20000 in
theorem gX9_isTenant_X9_in : GoodIn wsX9_isTenant (va_wsS RX9 48 yX9_in wsX9_in) := goodIn_app (goodIn_of _ (by decide +kernel)) ggX9_isTenant_X9_in
theorem dX9_isTenant_0 : decode cX9_isTenant 0 = .ok (.iload_n 1, 1) := by decide +kernel
theorem dX9_isTenant_1 : decode cX9_isTenant 1 = .ok (.i2l, 1) := by decide +kernel
theorem dX9_isTenant_2 : decode cX9_isTenant 2 = .ok (.lconst 0, 1) := by decide +kernel
theorem dX9_isTenant_3 : decode cX9_isTenant 3 = .ok (.aload_n 0, 1) := by decide +kernel
theorem dX9_isTenant_4 : decode cX9_isTenant 4 = .ok (.getfield 16, 3) := by decide +kernel
theorem dX9_isTenant_7 : decode cX9_isTenant 7 = .ok (.iconst 1, 1) := by decide +kernel
theorem dX9_isTenant_8 : decode cX9_isTenant 8 = .ok (.iaload, 1) := by decide +kernel
theorem dX9_isTenant_9 : decode cX9_isTenant 9 = .ok (.iconst 1, 1) := by decide +kernel
theorem dX9_isTenant_10 : decode cX9_isTenant 10 = .ok (.isub, 1) := by decide +kernel
theorem dX9_isTenant_11 : decode cX9_isTenant 11 = .ok (.i2l, 1) := by decide +kernel
theorem dX9_isTenant_12 : decode cX9_isTenant 12 = .ok (.invokestatic 48, 3) := by decide +kernel
theorem dX9_isTenant_15 : decode cX9_isTenant 15 = .ok (.ireturn, 1) := by decide +kernel
theorem dX9_roomOf_0 : decode cX9_roomOf 0 = .ok (.aload_n 0, 1) := by decide +kernel
theorem dX9_roomOf_1 : decode cX9_roomOf 1 = .ok (.getfield 19, 3) := by decide +kernel
theorem dX9_roomOf_4 : decode cX9_roomOf 4 = .ok (.iconst 1, 1) := by decide +kernel
theorem dX9_roomOf_5 : decode cX9_roomOf 5 = .ok (.iconst 4, 1) := by decide +kernel
theorem dX9_roomOf_6 : decode cX9_roomOf 6 = .ok (.iload_n 1, 1) := by decide +kernel
theorem dX9_roomOf_7 : decode cX9_roomOf 7 = .ok (.imul, 1) := by decide +kernel
theorem dX9_roomOf_8 : decode cX9_roomOf 8 = .ok (.iadd, 1) := by decide +kernel
theorem dX9_roomOf_9 : decode cX9_roomOf 9 = .ok (.iaload, 1) := by decide +kernel
theorem dX9_roomOf_10 : decode cX9_roomOf 10 = .ok (.ireturn, 1) := by decide +kernel
theorem dX9_debt_0 : decode cX9_debt 0 = .ok (.aload_n 0, 1) := by decide +kernel
theorem dX9_debt_1 : decode cX9_debt 1 = .ok (.getfield 19, 3) := by decide +kernel
theorem dX9_debt_4 : decode cX9_debt 4 = .ok (.iconst 4, 1) := by decide +kernel
theorem dX9_debt_5 : decode cX9_debt 5 = .ok (.iconst 4, 1) := by decide +kernel
theorem dX9_debt_6 : decode cX9_debt 6 = .ok (.iload_n 1, 1) := by decide +kernel
theorem dX9_debt_7 : decode cX9_debt 7 = .ok (.imul, 1) := by decide +kernel
theorem dX9_debt_8 : decode cX9_debt 8 = .ok (.iadd, 1) := by decide +kernel
theorem dX9_debt_9 : decode cX9_debt 9 = .ok (.iaload, 1) := by decide +kernel
theorem dX9_debt_10 : decode cX9_debt 10 = .ok (.ireturn, 1) := by decide +kernel
theorem dX9_free_0 : decode cX9_free 0 = .ok (.bipush 24, 2) := by decide +kernel
theorem dX9_free_2 : decode cX9_free 2 = .ok (.aload_n 0, 1) := by decide +kernel
theorem dX9_free_3 : decode cX9_free 3 = .ok (.getfield 16, 3) := by decide +kernel
theorem dX9_free_6 : decode cX9_free 6 = .ok (.bipush 9, 2) := by decide +kernel
theorem dX9_free_8 : decode cX9_free 8 = .ok (.iconst 5, 1) := by decide +kernel
theorem dX9_free_9 : decode cX9_free 9 = .ok (.iload_n 1, 1) := by decide +kernel
theorem dX9_free_10 : decode cX9_free 10 = .ok (.imul, 1) := by decide +kernel
theorem dX9_free_11 : decode cX9_free 11 = .ok (.iadd, 1) := by decide +kernel
theorem dX9_free_12 : decode cX9_free 12 = .ok (.iaload, 1) := by decide +kernel
theorem dX9_free_13 : decode cX9_free 13 = .ok (.isub, 1) := by decide +kernel
theorem dX9_free_14 : decode cX9_free 14 = .ok (.ireturn, 1) := by decide +kernel
theorem dX9_must_0 : decode cX9_must 0 = .ok (.aload_n 0, 1) := by decide +kernel
theorem dX9_must_1 : decode cX9_must 1 = .ok (.getfield 16, 3) := by decide +kernel
theorem dX9_must_4 : decode cX9_must 4 = .ok (.bipush 9, 2) := by decide +kernel
theorem dX9_must_6 : decode cX9_must 6 = .ok (.iconst 5, 1) := by decide +kernel
theorem dX9_must_7 : decode cX9_must 7 = .ok (.iload_n 1, 1) := by decide +kernel
theorem dX9_must_8 : decode cX9_must 8 = .ok (.imul, 1) := by decide +kernel
theorem dX9_must_9 : decode cX9_must 9 = .ok (.iadd, 1) := by decide +kernel
theorem dX9_must_10 : decode cX9_must 10 = .ok (.iconst 1, 1) := by decide +kernel
theorem dX9_must_11 : decode cX9_must 11 = .ok (.iadd, 1) := by decide +kernel
theorem dX9_must_12 : decode cX9_must 12 = .ok (.iaload, 1) := by decide +kernel
theorem dX9_must_13 : decode cX9_must 13 = .ok (.ireturn, 1) := by decide +kernel
set_option maxRecDepth 20000 in
theorem ggX9_silent_X9_free : GoodIn wsX9_silent wsX9_free := goodIn_r _ [6, 7, 8, 9, 10, 11, 12, 13, 14, 15, 16, 17, 18, 19, 20, 21, 22, 23, 24, 25, 26, 27, 28, 29] (by decide +kernel) (by decide +kernel)
set_option maxRecDepth 20000 in
theorem gX9_silent_X9_free : GoodIn wsX9_silent (wsV RX9 115 RX9 yX9_free wsX9_free) := goodIn_app (goodIn_of _ (by decide +kernel)) ggX9_silent_X9_free
theorem dX9_silent_0 : decode cX9_silent 0 = .ok (.aload_n 0, 1) := by decide +kernel
theorem dX9_silent_1 : decode cX9_silent 1 = .ok (.iload_n 1, 1) := by decide +kernel
theorem dX9_silent_2 : decode cX9_silent 2 = .ok (.invokevirtual 115, 3) := by decide +kernel
theorem dX9_silent_5 : decode cX9_silent 5 = .ok (.aload_n 0, 1) := by decide +kernel
theorem dX9_silent_6 : decode cX9_silent 6 = .ok (.getfield 19, 3) := by decide +kernel
theorem dX9_silent_9 : decode cX9_silent 9 = .ok (.iconst 3, 1) := by decide +kernel
theorem dX9_silent_10 : decode cX9_silent 10 = .ok (.iconst 4, 1) := by decide +kernel
theorem dX9_silent_11 : decode cX9_silent 11 = .ok (.iload_n 1, 1) := by decide +kernel
theorem dX9_silent_12 : decode cX9_silent 12 = .ok (.imul, 1) := by decide +kernel
theorem dX9_silent_13 : decode cX9_silent 13 = .ok (.iadd, 1) := by decide +kernel
theorem dX9_silent_14 : decode cX9_silent 14 = .ok (.iaload, 1) := by decide +kernel
theorem dX9_silent_15 : decode cX9_silent 15 = .ok (.isub, 1) := by decide +kernel
theorem dX9_silent_16 : decode cX9_silent 16 = .ok (.istore_n 2, 1) := by decide +kernel
theorem dX9_silent_17 : decode cX9_silent 17 = .ok (.iload_n 2, 1) := by decide +kernel
theorem dX9_silent_18 : decode cX9_silent 18 = .ok (.ifCond .ge 7, 3) := by decide +kernel
theorem dX9_silent_21 : decode cX9_silent 21 = .ok (.iconst 0, 1) := by decide +kernel
theorem dX9_silent_22 : decode cX9_silent 22 = .ok (.goto 4, 3) := by decide +kernel
theorem dX9_silent_25 : decode cX9_silent 25 = .ok (.iload_n 2, 1) := by decide +kernel
theorem dX9_silent_26 : decode cX9_silent 26 = .ok (.ireturn, 1) := by decide +kernel
set_option maxRecDepth 20000 in
theorem ggX9_more_X9_free : GoodIn wsX9_more wsX9_free := goodIn_r _ [6, 1, 11, 12, 13, 14, 15, 16, 17, 18, 19, 20, 21, 22, 23, 24, 25, 26, 27, 28, 29, 30, 31, 32] (by decide +kernel) (by decide +kernel)
set_option maxRecDepth 20000 in
theorem gX9_more_X9_free : GoodIn wsX9_more (wsV RX9 115 RX9 yX9_free wsX9_free) := goodIn_app (goodIn_of _ (by decide +kernel)) ggX9_more_X9_free
set_option maxRecDepth 20000 in
theorem ggX9_more_X9_must : GoodIn wsX9_more wsX9_must := goodIn_r _ [10, 1, 11, 12, 13, 14, 15, 16, 17, 18, 19, 20, 21, 22, 23, 24, 25, 26, 27, 28, 29, 30, 31, 32] (by decide +kernel) (by decide +kernel)
set_option maxRecDepth 20000 in
theorem gX9_more_X9_must : GoodIn wsX9_more (wsV RX9 119 RX9 yX9_must wsX9_must) := goodIn_app (goodIn_of _ (by decide +kernel)) ggX9_more_X9_must
theorem dX9_more_0 : decode cX9_more 0 = .ok (.aload_n 0, 1) := by decide +kernel
theorem dX9_more_1 : decode cX9_more 1 = .ok (.iload_n 1, 1) := by decide +kernel
theorem dX9_more_2 : decode cX9_more 2 = .ok (.invokevirtual 115, 3) := by decide +kernel
theorem dX9_more_5 : decode cX9_more 5 = .ok (.aload_n 0, 1) := by decide +kernel
theorem dX9_more_6 : decode cX9_more 6 = .ok (.iload_n 1, 1) := by decide +kernel
theorem dX9_more_7 : decode cX9_more 7 = .ok (.invokevirtual 119, 3) := by decide +kernel
theorem dX9_more_10 : decode cX9_more 10 = .ok (.isub, 1) := by decide +kernel
theorem dX9_more_11 : decode cX9_more 11 = .ok (.aload_n 0, 1) := by decide +kernel
theorem dX9_more_12 : decode cX9_more 12 = .ok (.getfield 16, 3) := by decide +kernel
theorem dX9_more_15 : decode cX9_more 15 = .ok (.iconst 3, 1) := by decide +kernel
theorem dX9_more_16 : decode cX9_more 16 = .ok (.iload_n 2, 1) := by decide +kernel
theorem dX9_more_17 : decode cX9_more 17 = .ok (.iadd, 1) := by decide +kernel
theorem dX9_more_18 : decode cX9_more 18 = .ok (.iaload, 1) := by decide +kernel
theorem dX9_more_19 : decode cX9_more 19 = .ok (.isub, 1) := by decide +kernel
theorem dX9_more_20 : decode cX9_more 20 = .ok (.ireturn, 1) := by decide +kernel
set_option maxRecDepth 20000 in
theorem ggX9_livesIn_X9_roomOf : GoodIn wsX9_livesIn wsX9_roomOf := goodIn_r _ [6, 7, 8, 9, 10, 11, 12, 13, 14, 15, 16, 17, 18, 19, 20, 21, 22, 23, 24, 25, 26, 27, 28, 29] (by decide +kernel) (by decide +kernel)
set_option maxRecDepth 20000 in
theorem gX9_livesIn_X9_roomOf : GoodIn wsX9_livesIn (wsV RX9 122 RX9 yX9_roomOf wsX9_roomOf) := goodIn_app (goodIn_of _ (by decide +kernel)) ggX9_livesIn_X9_roomOf
theorem dX9_livesIn_0 : decode cX9_livesIn 0 = .ok (.bipush (-9), 2) := by decide +kernel
theorem dX9_livesIn_2 : decode cX9_livesIn 2 = .ok (.istore_n 2, 1) := by decide +kernel
theorem dX9_livesIn_3 : decode cX9_livesIn 3 = .ok (.iconst 0, 1) := by decide +kernel
theorem dX9_livesIn_4 : decode cX9_livesIn 4 = .ok (.istore_n 3, 1) := by decide +kernel
theorem dX9_livesIn_5 : decode cX9_livesIn 5 = .ok (.iload_n 3, 1) := by decide +kernel
theorem dX9_livesIn_6 : decode cX9_livesIn 6 = .ok (.aload_n 0, 1) := by decide +kernel
theorem dX9_livesIn_7 : decode cX9_livesIn 7 = .ok (.getfield 16, 3) := by decide +kernel
theorem dX9_livesIn_10 : decode cX9_livesIn 10 = .ok (.iconst 1, 1) := by decide +kernel
theorem dX9_livesIn_11 : decode cX9_livesIn 11 = .ok (.iaload, 1) := by decide +kernel
theorem dX9_livesIn_12 : decode cX9_livesIn 12 = .ok (.if_icmp .ge 24, 3) := by decide +kernel
theorem dX9_livesIn_15 : decode cX9_livesIn 15 = .ok (.aload_n 0, 1) := by decide +kernel
theorem dX9_livesIn_16 : decode cX9_livesIn 16 = .ok (.iload_n 3, 1) := by decide +kernel
theorem dX9_livesIn_17 : decode cX9_livesIn 17 = .ok (.invokevirtual 122, 3) := by decide +kernel
theorem dX9_livesIn_20 : decode cX9_livesIn 20 = .ok (.iload_n 1, 1) := by decide +kernel
theorem dX9_livesIn_21 : decode cX9_livesIn 21 = .ok (.if_icmp .ne 7, 3) := by decide +kernel
theorem dX9_livesIn_24 : decode cX9_livesIn 24 = .ok (.iload_n 3, 1) := by decide +kernel
theorem dX9_livesIn_25 : decode cX9_livesIn 25 = .ok (.goto 4, 3) := by decide +kernel
theorem dX9_livesIn_28 : decode cX9_livesIn 28 = .ok (.iload_n 2, 1) := by decide +kernel
theorem dX9_livesIn_29 : decode cX9_livesIn 29 = .ok (.istore_n 2, 1) := by decide +kernel
theorem dX9_livesIn_30 : decode cX9_livesIn 30 = .ok (.iinc 3 1, 3) := by decide +kernel
theorem dX9_livesIn_33 : decode cX9_livesIn 33 = .ok (.goto (-28), 3) := by decide +kernel
theorem dX9_livesIn_36 : decode cX9_livesIn 36 = .ok (.iload_n 2, 1) := by decide +kernel
theorem dX9_livesIn_37 : decode cX9_livesIn 37 = .ok (.ireturn, 1) := by decide +kernel
set_option maxRecDepth 20000 in
theorem ggX9_room_X9_isRoom : GoodIn wsX9_room wsX9_isRoom := goodIn_r _ [7, 2, 8, 9, 6, 10, 32, 33, 34, 35, 36, 37, 38, 39, 40, 41, 42, 43, 44, 45, 46, 47, 48, 49, 50, 51, 52, 53] (by decide +kernel) (by decide +kernel)
set_option maxRecDepth 20000 in
theorem gX9_room_X9_isRoom : GoodIn wsX9_room (wsV RX9 125 RX9 yX9_isRoom wsX9_isRoom) := goodIn_app (goodIn_of _ (by decide +kernel)) ggX9_room_X9_isRoom
set_option maxRecDepth 20000 in
theorem ggX9_room_X9_in : GoodIn wsX9_room wsX9_in := goodIn_r _ [10] (by decide +kernel) (by decide +kernel)
set_option maxRecDepth 20000 in
theorem gX9_room_X9_in : GoodIn wsX9_room (va_wsS RX9 48 yX9_in wsX9_in) := goodIn_app (goodIn_of _ (by decide +kernel)) ggX9_room_X9_in
set_option maxRecDepth 20000 in
theorem ggX9_room_X9_more : GoodIn wsX9_room wsX9_more := goodIn_r _ [14, 2, 15, 16, 17, 6, 18, 19, 20, 21, 22, 32, 33, 34, 35, 36, 37, 38, 39, 40, 41, 42, 43, 44, 45, 46, 47, 48, 49, 50, 51, 52, 53] (by decide +kernel) (by decide +kernel)
set_option maxRecDepth 20000 in
theorem gX9_room_X9_more : GoodIn wsX9_room (wsV RX9 130 RX9 yX9_more wsX9_more) := goodIn_app (goodIn_of _ (by decide +kernel)) ggX9_room_X9_more
set_option maxRecDepth 20000 in
theorem ggX9_room_X9_livesIn : GoodIn wsX9_room wsX9_livesIn := goodIn_r _ [26, 2, 27, 28, 29, 6, 30, 31, 32, 33, 34, 35, 36, 37, 38, 39, 40, 41, 42, 43, 44, 45, 46, 47, 48, 49, 50, 51, 52, 53] (by decide +kernel) (by decide +kernel)
set_option maxRecDepth 20000 in
theorem gX9_room_X9_livesIn : GoodIn wsX9_room (wsV RX9 134 RX9 yX9_livesIn wsX9_livesIn) := goodIn_app (goodIn_of _ (by decide +kernel)) ggX9_room_X9_livesIn
theorem dX9_room_0 : decode cX9_room 0 = .ok (.aload_n 0, 1) := by decide +kernel
theorem dX9_room_1 : decode cX9_room 1 = .ok (.iload_n 1, 1) := by decide +kernel
theorem dX9_room_2 : decode cX9_room 2 = .ok (.invokevirtual 125, 3) := by decide +kernel
theorem dX9_room_5 : decode cX9_room 5 = .ok (.ifCond .eq 15, 3) := by decide +kernel
theorem dX9_room_8 : decode cX9_room 8 = .ok (.iload_n 2, 1) := by decide +kernel
theorem dX9_room_9 : decode cX9_room 9 = .ok (.i2l, 1) := by decide +kernel
theorem dX9_room_10 : decode cX9_room 10 = .ok (.lconst 0, 1) := by decide +kernel
theorem dX9_room_11 : decode cX9_room 11 = .ok (.ldc2_w 128, 3) := by decide +kernel
theorem dX9_room_14 : decode cX9_room 14 = .ok (.invokestatic 48, 3) := by decide +kernel
theorem dX9_room_17 : decode cX9_room 17 = .ok (.ifCond .ne 5, 3) := by decide +kernel
theorem dX9_room_20 : decode cX9_room 20 = .ok (.iconst (-1), 1) := by decide +kernel
theorem dX9_room_21 : decode cX9_room 21 = .ok (.ireturn, 1) := by decide +kernel
theorem dX9_room_22 : decode cX9_room 22 = .ok (.iconst 0, 1) := by decide +kernel
theorem dX9_room_23 : decode cX9_room 23 = .ok (.istore_n 3, 1) := by decide +kernel
theorem dX9_room_24 : decode cX9_room 24 = .ok (.iconst 0, 1) := by decide +kernel
theorem dX9_room_25 : decode cX9_room 25 = .ok (.istore 4, 2) := by decide +kernel
theorem dX9_room_27 : decode cX9_room 27 = .ok (.iload 4, 2) := by decide +kernel
theorem dX9_room_29 : decode cX9_room 29 = .ok (.aload_n 0, 1) := by decide +kernel
theorem dX9_room_30 : decode cX9_room 30 = .ok (.getfield 16, 3) := by decide +kernel
theorem dX9_room_33 : decode cX9_room 33 = .ok (.iconst 1, 1) := by decide +kernel
theorem dX9_room_34 : decode cX9_room 34 = .ok (.iaload, 1) := by decide +kernel
theorem dX9_room_35 : decode cX9_room 35 = .ok (.if_icmp .ge 30, 3) := by decide +kernel
theorem dX9_room_38 : decode cX9_room 38 = .ok (.iload_n 3, 1) := by decide +kernel
theorem dX9_room_39 : decode cX9_room 39 = .ok (.aload_n 0, 1) := by decide +kernel
theorem dX9_room_40 : decode cX9_room 40 = .ok (.iload 4, 2) := by decide +kernel
theorem dX9_room_42 : decode cX9_room 42 = .ok (.iload_n 1, 1) := by decide +kernel
theorem dX9_room_43 : decode cX9_room 43 = .ok (.invokevirtual 130, 3) := by decide +kernel
theorem dX9_room_46 : decode cX9_room 46 = .ok (.ifCond .lt 10, 3) := by decide +kernel
theorem dX9_room_49 : decode cX9_room 49 = .ok (.iconst 1, 1) := by decide +kernel
theorem dX9_room_50 : decode cX9_room 50 = .ok (.iload 4, 2) := by decide +kernel
theorem dX9_room_52 : decode cX9_room 52 = .ok (.ishl, 1) := by decide +kernel
theorem dX9_room_53 : decode cX9_room 53 = .ok (.goto 4, 3) := by decide +kernel
theorem dX9_room_56 : decode cX9_room 56 = .ok (.iconst 0, 1) := by decide +kernel
theorem dX9_room_57 : decode cX9_room 57 = .ok (.ior, 1) := by decide +kernel
theorem dX9_room_58 : decode cX9_room 58 = .ok (.istore_n 3, 1) := by decide +kernel
theorem dX9_room_59 : decode cX9_room 59 = .ok (.iinc 4 1, 3) := by decide +kernel
theorem dX9_room_62 : decode cX9_room 62 = .ok (.goto (-35), 3) := by decide +kernel
theorem dX9_room_65 : decode cX9_room 65 = .ok (.iload_n 2, 1) := by decide +kernel
theorem dX9_room_66 : decode cX9_room 66 = .ok (.ifCond .ne 14, 3) := by decide +kernel
theorem dX9_room_69 : decode cX9_room 69 = .ok (.aload_n 0, 1) := by decide +kernel
theorem dX9_room_70 : decode cX9_room 70 = .ok (.getfield 16, 3) := by decide +kernel
theorem dX9_room_73 : decode cX9_room 73 = .ok (.iconst 3, 1) := by decide +kernel
theorem dX9_room_74 : decode cX9_room 74 = .ok (.iload_n 1, 1) := by decide +kernel
theorem dX9_room_75 : decode cX9_room 75 = .ok (.iadd, 1) := by decide +kernel
theorem dX9_room_76 : decode cX9_room 76 = .ok (.iaload, 1) := by decide +kernel
theorem dX9_room_77 : decode cX9_room 77 = .ok (.goto 17, 3) := by decide +kernel
theorem dX9_room_80 : decode cX9_room 80 = .ok (.iload_n 2, 1) := by decide +kernel
theorem dX9_room_81 : decode cX9_room 81 = .ok (.iconst 1, 1) := by decide +kernel
theorem dX9_room_82 : decode cX9_room 82 = .ok (.if_icmp .ne 11, 3) := by decide +kernel
theorem dX9_room_85 : decode cX9_room 85 = .ok (.aload_n 0, 1) := by decide +kernel
theorem dX9_room_86 : decode cX9_room 86 = .ok (.iload_n 1, 1) := by decide +kernel
theorem dX9_room_87 : decode cX9_room 87 = .ok (.invokevirtual 134, 3) := by decide +kernel
theorem dX9_room_90 : decode cX9_room 90 = .ok (.goto 4, 3) := by decide +kernel
theorem dX9_room_93 : decode cX9_room 93 = .ok (.iload_n 3, 1) := by decide +kernel
theorem dX9_room_94 : decode cX9_room 94 = .ok (.ireturn, 1) := by decide +kernel
set_option maxRecDepth 20000 in
theorem ggX9_tenant_X9_isTenant : GoodIn wsX9_tenant wsX9_isTenant := goodIn_r _ [8, 2, 9, 10, 7, 11, 20, 21, 22, 23, 24, 25, 26, 27, 28, 29, 30, 31, 32, 33, 34, 35, 36, 37, 38, 39, 40, 41] (by decide +kernel) (by decide +kernel)
set_option maxRecDepth 20000 in
theorem gX9_tenant_X9_isTenant : GoodIn wsX9_tenant (wsV RX9 137 RX9 yX9_isTenant wsX9_isTenant) := goodIn_app (goodIn_of _ (by decide +kernel)) ggX9_tenant_X9_isTenant
set_option maxRecDepth 20000 in
theorem ggX9_tenant_X9_in : GoodIn wsX9_tenant wsX9_in := goodIn_r _ [11] (by decide +kernel) (by decide +kernel)
set_option maxRecDepth 20000 in
theorem gX9_tenant_X9_in : GoodIn wsX9_tenant (va_wsS RX9 48 yX9_in wsX9_in) := goodIn_app (goodIn_of _ (by decide +kernel)) ggX9_tenant_X9_in
set_option maxRecDepth 20000 in
theorem ggX9_tenant_X9_silent : GoodIn wsX9_tenant wsX9_silent := goodIn_r _ [15, 3, 16, 17, 18, 7, 19, 2, 20, 21, 22, 23, 24, 25, 26, 27, 28, 29, 30, 31, 32, 33, 34, 35, 36, 37, 38, 39, 40, 41] (by decide +kernel) (by decide +kernel)
set_option maxRecDepth 20000 in
theorem gX9_tenant_X9_silent : GoodIn wsX9_tenant (wsV RX9 142 RX9 yX9_silent wsX9_silent) := goodIn_app (goodIn_of _ (by decide +kernel)) ggX9_tenant_X9_silent
theorem dX9_tenant_0 : decode cX9_tenant 0 = .ok (.aload_n 0, 1) := by decide +kernel
theorem dX9_tenant_1 : decode cX9_tenant 1 = .ok (.iload_n 1, 1) := by decide +kernel
theorem dX9_tenant_2 : decode cX9_tenant 2 = .ok (.invokevirtual 137, 3) := by decide +kernel
theorem dX9_tenant_5 : decode cX9_tenant 5 = .ok (.ifCond .eq 15, 3) := by decide +kernel
theorem dX9_tenant_8 : decode cX9_tenant 8 = .ok (.iload_n 2, 1) := by decide +kernel
theorem dX9_tenant_9 : decode cX9_tenant 9 = .ok (.i2l, 1) := by decide +kernel
theorem dX9_tenant_10 : decode cX9_tenant 10 = .ok (.lconst 0, 1) := by decide +kernel
theorem dX9_tenant_11 : decode cX9_tenant 11 = .ok (.ldc2_w 140, 3) := by decide +kernel
theorem dX9_tenant_14 : decode cX9_tenant 14 = .ok (.invokestatic 48, 3) := by decide +kernel
theorem dX9_tenant_17 : decode cX9_tenant 17 = .ok (.ifCond .ne 5, 3) := by decide +kernel
theorem dX9_tenant_20 : decode cX9_tenant 20 = .ok (.iconst (-1), 1) := by decide +kernel
theorem dX9_tenant_21 : decode cX9_tenant 21 = .ok (.ireturn, 1) := by decide +kernel
theorem dX9_tenant_22 : decode cX9_tenant 22 = .ok (.iload_n 2, 1) := by decide +kernel
theorem dX9_tenant_23 : decode cX9_tenant 23 = .ok (.iconst 4, 1) := by decide +kernel
theorem dX9_tenant_24 : decode cX9_tenant 24 = .ok (.if_icmp .ge 19, 3) := by decide +kernel
theorem dX9_tenant_27 : decode cX9_tenant 27 = .ok (.aload_n 0, 1) := by decide +kernel
theorem dX9_tenant_28 : decode cX9_tenant 28 = .ok (.getfield 16, 3) := by decide +kernel
theorem dX9_tenant_31 : decode cX9_tenant 31 = .ok (.bipush 9, 2) := by decide +kernel
theorem dX9_tenant_33 : decode cX9_tenant 33 = .ok (.iconst 5, 1) := by decide +kernel
theorem dX9_tenant_34 : decode cX9_tenant 34 = .ok (.iload_n 1, 1) := by decide +kernel
theorem dX9_tenant_35 : decode cX9_tenant 35 = .ok (.imul, 1) := by decide +kernel
theorem dX9_tenant_36 : decode cX9_tenant 36 = .ok (.iadd, 1) := by decide +kernel
theorem dX9_tenant_37 : decode cX9_tenant 37 = .ok (.iload_n 2, 1) := by decide +kernel
theorem dX9_tenant_38 : decode cX9_tenant 38 = .ok (.iadd, 1) := by decide +kernel
theorem dX9_tenant_39 : decode cX9_tenant 39 = .ok (.iaload, 1) := by decide +kernel
theorem dX9_tenant_40 : decode cX9_tenant 40 = .ok (.goto 53, 3) := by decide +kernel
theorem dX9_tenant_43 : decode cX9_tenant 43 = .ok (.iload_n 2, 1) := by decide +kernel
theorem dX9_tenant_44 : decode cX9_tenant 44 = .ok (.bipush 8, 2) := by decide +kernel
theorem dX9_tenant_46 : decode cX9_tenant 46 = .ok (.if_icmp .ge 20, 3) := by decide +kernel
theorem dX9_tenant_49 : decode cX9_tenant 49 = .ok (.aload_n 0, 1) := by decide +kernel
theorem dX9_tenant_50 : decode cX9_tenant 50 = .ok (.getfield 19, 3) := by decide +kernel
theorem dX9_tenant_53 : decode cX9_tenant 53 = .ok (.iconst 1, 1) := by decide +kernel
theorem dX9_tenant_54 : decode cX9_tenant 54 = .ok (.iconst 4, 1) := by decide +kernel
theorem dX9_tenant_55 : decode cX9_tenant 55 = .ok (.iload_n 1, 1) := by decide +kernel
theorem dX9_tenant_56 : decode cX9_tenant 56 = .ok (.imul, 1) := by decide +kernel
theorem dX9_tenant_57 : decode cX9_tenant 57 = .ok (.iadd, 1) := by decide +kernel
theorem dX9_tenant_58 : decode cX9_tenant 58 = .ok (.iload_n 2, 1) := by decide +kernel
theorem dX9_tenant_59 : decode cX9_tenant 59 = .ok (.iadd, 1) := by decide +kernel
theorem dX9_tenant_60 : decode cX9_tenant 60 = .ok (.iconst 4, 1) := by decide +kernel
theorem dX9_tenant_61 : decode cX9_tenant 61 = .ok (.isub, 1) := by decide +kernel
theorem dX9_tenant_62 : decode cX9_tenant 62 = .ok (.iaload, 1) := by decide +kernel
theorem dX9_tenant_63 : decode cX9_tenant 63 = .ok (.goto 30, 3) := by decide +kernel
theorem dX9_tenant_66 : decode cX9_tenant 66 = .ok (.iload_n 2, 1) := by decide +kernel
theorem dX9_tenant_67 : decode cX9_tenant 67 = .ok (.bipush 8, 2) := by decide +kernel
theorem dX9_tenant_69 : decode cX9_tenant 69 = .ok (.if_icmp .ne 11, 3) := by decide +kernel
theorem dX9_tenant_72 : decode cX9_tenant 72 = .ok (.aload_n 0, 1) := by decide +kernel
theorem dX9_tenant_73 : decode cX9_tenant 73 = .ok (.iload_n 1, 1) := by decide +kernel
theorem dX9_tenant_74 : decode cX9_tenant 74 = .ok (.invokevirtual 142, 3) := by decide +kernel
theorem dX9_tenant_77 : decode cX9_tenant 77 = .ok (.goto 16, 3) := by decide +kernel
theorem dX9_tenant_80 : decode cX9_tenant 80 = .ok (.aload_n 0, 1) := by decide +kernel
theorem dX9_tenant_81 : decode cX9_tenant 81 = .ok (.getfield 16, 3) := by decide +kernel
theorem dX9_tenant_84 : decode cX9_tenant 84 = .ok (.bipush 9, 2) := by decide +kernel
theorem dX9_tenant_86 : decode cX9_tenant 86 = .ok (.iconst 5, 1) := by decide +kernel
theorem dX9_tenant_87 : decode cX9_tenant 87 = .ok (.iload_n 1, 1) := by decide +kernel
theorem dX9_tenant_88 : decode cX9_tenant 88 = .ok (.imul, 1) := by decide +kernel
theorem dX9_tenant_89 : decode cX9_tenant 89 = .ok (.iadd, 1) := by decide +kernel
theorem dX9_tenant_90 : decode cX9_tenant 90 = .ok (.iconst 4, 1) := by decide +kernel
theorem dX9_tenant_91 : decode cX9_tenant 91 = .ok (.iadd, 1) := by decide +kernel
theorem dX9_tenant_92 : decode cX9_tenant 92 = .ok (.iaload, 1) := by decide +kernel
theorem dX9_tenant_93 : decode cX9_tenant 93 = .ok (.ireturn, 1) := by decide +kernel
set_option maxRecDepth 20000 in
theorem ggX9_chair_X9_in : GoodIn wsX9_chair wsX9_in := goodIn_r _ [5] (by decide +kernel) (by decide +kernel)
set_option maxRecDepth 20000 in
theorem gX9_chair_X9_in : GoodIn wsX9_chair (va_wsS RX9 48 yX9_in wsX9_in) := goodIn_app (goodIn_of _ (by decide +kernel)) ggX9_chair_X9_in
set_option maxRecDepth 20000 in
theorem ggX9_chair_X9_lips : GoodIn wsX9_chair wsX9_lips := goodIn_r _ [9, 1, 10, 11, 12, 13, 14, 15, 16, 17, 18, 19, 20, 21, 22, 23, 24, 25, 26, 27, 28, 29, 30, 31] (by decide +kernel) (by decide +kernel)
set_option maxRecDepth 20000 in
theorem gX9_chair_X9_lips : GoodIn wsX9_chair (wsV RX9 145 RX9 yX9_lips wsX9_lips) := goodIn_app (goodIn_of _ (by decide +kernel)) ggX9_chair_X9_lips
theorem dX9_chair_0 : decode cX9_chair 0 = .ok (.iload_n 1, 1) := by decide +kernel
theorem dX9_chair_1 : decode cX9_chair 1 = .ok (.i2l, 1) := by decide +kernel
theorem dX9_chair_2 : decode cX9_chair 2 = .ok (.lconst 0, 1) := by decide +kernel
theorem dX9_chair_3 : decode cX9_chair 3 = .ok (.aload_n 0, 1) := by decide +kernel
theorem dX9_chair_4 : decode cX9_chair 4 = .ok (.getfield 16, 3) := by decide +kernel
theorem dX9_chair_7 : decode cX9_chair 7 = .ok (.iconst 2, 1) := by decide +kernel
theorem dX9_chair_8 : decode cX9_chair 8 = .ok (.iaload, 1) := by decide +kernel
theorem dX9_chair_9 : decode cX9_chair 9 = .ok (.iconst 1, 1) := by decide +kernel
theorem dX9_chair_10 : decode cX9_chair 10 = .ok (.isub, 1) := by decide +kernel
theorem dX9_chair_11 : decode cX9_chair 11 = .ok (.i2l, 1) := by decide +kernel
theorem dX9_chair_12 : decode cX9_chair 12 = .ok (.invokestatic 48, 3) := by decide +kernel
theorem dX9_chair_15 : decode cX9_chair 15 = .ok (.ifCond .eq 11, 3) := by decide +kernel
theorem dX9_chair_18 : decode cX9_chair 18 = .ok (.aload_n 0, 1) := by decide +kernel
theorem dX9_chair_19 : decode cX9_chair 19 = .ok (.iload_n 1, 1) := by decide +kernel
theorem dX9_chair_20 : decode cX9_chair 20 = .ok (.invokevirtual 145, 3) := by decide +kernel
theorem dX9_chair_23 : decode cX9_chair 23 = .ok (.goto 4, 3) := by decide +kernel
theorem dX9_chair_26 : decode cX9_chair 26 = .ok (.iconst (-1), 1) := by decide +kernel
theorem dX9_chair_27 : decode cX9_chair 27 = .ok (.ireturn, 1) := by decide +kernel
theorem dX9_lips_0 : decode cX9_lips 0 = .ok (.aload_n 0, 1) := by decide +kernel
theorem dX9_lips_1 : decode cX9_lips 1 = .ok (.getfield 16, 3) := by decide +kernel
theorem dX9_lips_4 : decode cX9_lips 4 = .ok (.bipush 39, 2) := by decide +kernel
theorem dX9_lips_6 : decode cX9_lips 6 = .ok (.iload_n 1, 1) := by decide +kernel
theorem dX9_lips_7 : decode cX9_lips 7 = .ok (.iadd, 1) := by decide +kernel
theorem dX9_lips_8 : decode cX9_lips 8 = .ok (.iaload, 1) := by decide +kernel
theorem dX9_lips_9 : decode cX9_lips 9 = .ok (.iconst 1, 1) := by decide +kernel
theorem dX9_lips_10 : decode cX9_lips 10 = .ok (.aload_n 0, 1) := by decide +kernel
theorem dX9_lips_11 : decode cX9_lips 11 = .ok (.getfield 16, 3) := by decide +kernel
theorem dX9_lips_14 : decode cX9_lips 14 = .ok (.iconst 1, 1) := by decide +kernel
theorem dX9_lips_15 : decode cX9_lips 15 = .ok (.iaload, 1) := by decide +kernel
theorem dX9_lips_16 : decode cX9_lips 16 = .ok (.ishl, 1) := by decide +kernel
theorem dX9_lips_17 : decode cX9_lips 17 = .ok (.iconst 1, 1) := by decide +kernel
theorem dX9_lips_18 : decode cX9_lips 18 = .ok (.isub, 1) := by decide +kernel
theorem dX9_lips_19 : decode cX9_lips 19 = .ok (.iand, 1) := by decide +kernel
theorem dX9_lips_20 : decode cX9_lips 20 = .ok (.ireturn, 1) := by decide +kernel
theorem dX9_notes_0 : decode cX9_notes 0 = .ok (.aload_n 0, 1) := by decide +kernel
theorem dX9_notes_1 : decode cX9_notes 1 = .ok (.getfield 112, 3) := by decide +kernel
theorem dX9_notes_4 : decode cX9_notes 4 = .ok (.bipush 10, 2) := by decide +kernel
theorem dX9_notes_6 : decode cX9_notes 6 = .ok (.if_icmp .ne 40, 3) := by decide +kernel
theorem dX9_notes_9 : decode cX9_notes 9 = .ok (.bipush 25, 2) := by decide +kernel
theorem dX9_notes_11 : decode cX9_notes 11 = .ok (.istore_n 1, 1) := by decide +kernel
theorem dX9_notes_12 : decode cX9_notes 12 = .ok (.iload_n 1, 1) := by decide +kernel
theorem dX9_notes_13 : decode cX9_notes 13 = .ok (.sipush 250, 3) := by decide +kernel
theorem dX9_notes_16 : decode cX9_notes 16 = .ok (.if_icmp .ge 24, 3) := by decide +kernel
theorem dX9_notes_19 : decode cX9_notes 19 = .ok (.aload_n 0, 1) := by decide +kernel
theorem dX9_notes_20 : decode cX9_notes 20 = .ok (.getfield 22, 3) := by decide +kernel
theorem dX9_notes_23 : decode cX9_notes 23 = .ok (.iload_n 1, 1) := by decide +kernel
theorem dX9_notes_24 : decode cX9_notes 24 = .ok (.bipush 25, 2) := by decide +kernel
theorem dX9_notes_26 : decode cX9_notes 26 = .ok (.isub, 1) := by decide +kernel
theorem dX9_notes_27 : decode cX9_notes 27 = .ok (.aload_n 0, 1) := by decide +kernel
theorem dX9_notes_28 : decode cX9_notes 28 = .ok (.getfield 22, 3) := by decide +kernel
theorem dX9_notes_31 : decode cX9_notes 31 = .ok (.iload_n 1, 1) := by decide +kernel
theorem dX9_notes_32 : decode cX9_notes 32 = .ok (.iaload, 1) := by decide +kernel
theorem dX9_notes_33 : decode cX9_notes 33 = .ok (.iastore, 1) := by decide +kernel
theorem dX9_notes_34 : decode cX9_notes 34 = .ok (.iinc 1 1, 3) := by decide +kernel
theorem dX9_notes_37 : decode cX9_notes 37 = .ok (.goto (-25), 3) := by decide +kernel
theorem dX9_notes_40 : decode cX9_notes 40 = .ok (.aload_n 0, 1) := by decide +kernel
theorem dX9_notes_41 : decode cX9_notes 41 = .ok (.bipush 9, 2) := by decide +kernel
theorem dX9_notes_43 : decode cX9_notes 43 = .ok (.putfield 112, 3) := by decide +kernel
theorem dX9_notes_46 : decode cX9_notes 46 = .ok (.iconst 0, 1) := by decide +kernel
theorem dX9_notes_47 : decode cX9_notes 47 = .ok (.istore_n 1, 1) := by decide +kernel
theorem dX9_notes_48 : decode cX9_notes 48 = .ok (.iload_n 1, 1) := by decide +kernel
theorem dX9_notes_49 : decode cX9_notes 49 = .ok (.bipush 25, 2) := by decide +kernel
theorem dX9_notes_51 : decode cX9_notes 51 = .ok (.if_icmp .ge 29, 3) := by decide +kernel
theorem dX9_notes_54 : decode cX9_notes 54 = .ok (.aload_n 0, 1) := by decide +kernel
theorem dX9_notes_55 : decode cX9_notes 55 = .ok (.getfield 22, 3) := by decide +kernel
theorem dX9_notes_58 : decode cX9_notes 58 = .ok (.bipush 25, 2) := by decide +kernel
theorem dX9_notes_60 : decode cX9_notes 60 = .ok (.aload_n 0, 1) := by decide +kernel
theorem dX9_notes_61 : decode cX9_notes 61 = .ok (.getfield 112, 3) := by decide +kernel
theorem dX9_notes_64 : decode cX9_notes 64 = .ok (.imul, 1) := by decide +kernel
theorem dX9_notes_65 : decode cX9_notes 65 = .ok (.iload_n 1, 1) := by decide +kernel
theorem dX9_notes_66 : decode cX9_notes 66 = .ok (.iadd, 1) := by decide +kernel
theorem dX9_notes_67 : decode cX9_notes 67 = .ok (.aload_n 0, 1) := by decide +kernel
theorem dX9_notes_68 : decode cX9_notes 68 = .ok (.getfield 19, 3) := by decide +kernel
theorem dX9_notes_71 : decode cX9_notes 71 = .ok (.iload_n 1, 1) := by decide +kernel
theorem dX9_notes_72 : decode cX9_notes 72 = .ok (.iaload, 1) := by decide +kernel
theorem dX9_notes_73 : decode cX9_notes 73 = .ok (.iastore, 1) := by decide +kernel
theorem dX9_notes_74 : decode cX9_notes 74 = .ok (.iinc 1 1, 3) := by decide +kernel
theorem dX9_notes_77 : decode cX9_notes 77 = .ok (.goto (-29), 3) := by decide +kernel
theorem dX9_notes_80 : decode cX9_notes 80 = .ok (.aload_n 0, 1) := by decide +kernel
theorem dX9_notes_81 : decode cX9_notes 81 = .ok (.dup, 1) := by decide +kernel
theorem dX9_notes_82 : decode cX9_notes 82 = .ok (.getfield 112, 3) := by decide +kernel
theorem dX9_notes_85 : decode cX9_notes 85 = .ok (.iconst 1, 1) := by decide +kernel
theorem dX9_notes_86 : decode cX9_notes 86 = .ok (.iadd, 1) := by decide +kernel
theorem dX9_notes_87 : decode cX9_notes 87 = .ok (.putfield 112, 3) := by decide +kernel
theorem dX9_notes_90 : decode cX9_notes 90 = .ok (.return_, 1) := by decide +kernel
set_option maxRecDepth 20000 in
theorem ggX9_moves_X9_isTenant : GoodIn wsX9_moves wsX9_isTenant := goodIn_r _ [8, 2, 9, 10, 7, 11, 26, 27, 28, 29, 30, 31, 32, 33, 34, 35, 36, 37, 38, 39, 40, 41, 42, 43, 44, 45, 46, 47] (by decide +kernel) (by decide +kernel)
set_option maxRecDepth 20000 in
theorem gX9_moves_X9_isTenant : GoodIn wsX9_moves (wsV RX9 137 RX9 yX9_isTenant wsX9_isTenant) := goodIn_app (goodIn_of _ (by decide +kernel)) ggX9_moves_X9_isTenant
set_option maxRecDepth 20000 in
theorem ggX9_moves_X9_in : GoodIn wsX9_moves wsX9_in := goodIn_r _ [11] (by decide +kernel) (by decide +kernel)
set_option maxRecDepth 20000 in
theorem gX9_moves_X9_in : GoodIn wsX9_moves (va_wsS RX9 48 yX9_in wsX9_in) := goodIn_app (goodIn_of _ (by decide +kernel)) ggX9_moves_X9_in
set_option maxRecDepth 20000 in
theorem ggX9_moves_X9_roomOf : GoodIn wsX9_moves wsX9_roomOf := goodIn_r _ [15, 3, 26, 27, 28, 29, 30, 31, 32, 33, 34, 35, 36, 37, 38, 39, 40, 41, 42, 43, 44, 45, 46, 47] (by decide +kernel) (by decide +kernel)
set_option maxRecDepth 20000 in
theorem gX9_moves_X9_roomOf : GoodIn wsX9_moves (wsV RX9 122 RX9 yX9_roomOf wsX9_roomOf) := goodIn_app (goodIn_of _ (by decide +kernel)) ggX9_moves_X9_roomOf
set_option maxRecDepth 20000 in
theorem ggX9_moves_X9_livesIn : GoodIn wsX9_moves wsX9_livesIn := goodIn_r _ [19, 2, 12, 13, 14, 7, 15, 3, 26, 27, 28, 29, 30, 31, 32, 33, 34, 35, 36, 37, 38, 39, 40, 41, 42, 43, 44, 45, 46, 47] (by decide +kernel) (by decide +kernel)
set_option maxRecDepth 20000 in
theorem gX9_moves_X9_livesIn : GoodIn wsX9_moves (wsV RX9 134 RX9 yX9_livesIn wsX9_livesIn) := goodIn_app (goodIn_of _ (by decide +kernel)) ggX9_moves_X9_livesIn
set_option maxRecDepth 20000 in
theorem ggX9_moves_X9_notes : GoodIn wsX9_moves wsX9_notes := goodIn_r _ [23, 24, 25, 3, 26, 27, 28, 29, 30, 31, 32, 33, 34, 35, 36, 37, 38, 39, 40, 41, 42, 43, 44, 45, 46, 47] (by decide +kernel) (by decide +kernel)
set_option maxRecDepth 20000 in
theorem gX9_moves_X9_notes : GoodIn wsX9_moves (wsV RX9 150 RX9 yX9_notes wsX9_notes) := goodIn_app (goodIn_of _ (by decide +kernel)) ggX9_moves_X9_notes
theorem dX9_moves_0 : decode cX9_moves 0 = .ok (.aload_n 0, 1) := by decide +kernel
theorem dX9_moves_1 : decode cX9_moves 1 = .ok (.iload_n 1, 1) := by decide +kernel
theorem dX9_moves_2 : decode cX9_moves 2 = .ok (.invokevirtual 137, 3) := by decide +kernel
theorem dX9_moves_5 : decode cX9_moves 5 = .ok (.ifCond .eq 23, 3) := by decide +kernel
theorem dX9_moves_8 : decode cX9_moves 8 = .ok (.iload_n 2, 1) := by decide +kernel
theorem dX9_moves_9 : decode cX9_moves 9 = .ok (.i2l, 1) := by decide +kernel
theorem dX9_moves_10 : decode cX9_moves 10 = .ok (.ldc2_w 148, 3) := by decide +kernel
theorem dX9_moves_13 : decode cX9_moves 13 = .ok (.aload_n 0, 1) := by decide +kernel
theorem dX9_moves_14 : decode cX9_moves 14 = .ok (.getfield 16, 3) := by decide +kernel
theorem dX9_moves_17 : decode cX9_moves 17 = .ok (.iconst 0, 1) := by decide +kernel
theorem dX9_moves_18 : decode cX9_moves 18 = .ok (.iaload, 1) := by decide +kernel
theorem dX9_moves_19 : decode cX9_moves 19 = .ok (.iconst 1, 1) := by decide +kernel
theorem dX9_moves_20 : decode cX9_moves 20 = .ok (.isub, 1) := by decide +kernel
theorem dX9_moves_21 : decode cX9_moves 21 = .ok (.i2l, 1) := by decide +kernel
theorem dX9_moves_22 : decode cX9_moves 22 = .ok (.invokestatic 48, 3) := by decide +kernel
theorem dX9_moves_25 : decode cX9_moves 25 = .ok (.ifCond .ne 5, 3) := by decide +kernel
theorem dX9_moves_28 : decode cX9_moves 28 = .ok (.iconst (-1), 1) := by decide +kernel
theorem dX9_moves_29 : decode cX9_moves 29 = .ok (.ireturn, 1) := by decide +kernel
theorem dX9_moves_30 : decode cX9_moves 30 = .ok (.aload_n 0, 1) := by decide +kernel
theorem dX9_moves_31 : decode cX9_moves 31 = .ok (.iload_n 1, 1) := by decide +kernel
theorem dX9_moves_32 : decode cX9_moves 32 = .ok (.invokevirtual 122, 3) := by decide +kernel
theorem dX9_moves_35 : decode cX9_moves 35 = .ok (.istore_n 3, 1) := by decide +kernel
theorem dX9_moves_36 : decode cX9_moves 36 = .ok (.iload_n 2, 1) := by decide +kernel
theorem dX9_moves_37 : decode cX9_moves 37 = .ok (.ifCond .ge 12, 3) := by decide +kernel
theorem dX9_moves_40 : decode cX9_moves 40 = .ok (.iload_n 3, 1) := by decide +kernel
theorem dX9_moves_41 : decode cX9_moves 41 = .ok (.bipush (-9), 2) := by decide +kernel
theorem dX9_moves_43 : decode cX9_moves 43 = .ok (.if_icmp .ne 19, 3) := by decide +kernel
theorem dX9_moves_46 : decode cX9_moves 46 = .ok (.goto 13, 3) := by decide +kernel
theorem dX9_moves_49 : decode cX9_moves 49 = .ok (.aload_n 0, 1) := by decide +kernel
theorem dX9_moves_50 : decode cX9_moves 50 = .ok (.iload_n 2, 1) := by decide +kernel
theorem dX9_moves_51 : decode cX9_moves 51 = .ok (.invokevirtual 134, 3) := by decide +kernel
theorem dX9_moves_54 : decode cX9_moves 54 = .ok (.bipush (-9), 2) := by decide +kernel
theorem dX9_moves_56 : decode cX9_moves 56 = .ok (.if_icmp .eq 6, 3) := by decide +kernel
theorem dX9_moves_59 : decode cX9_moves 59 = .ok (.bipush (-2), 2) := by decide +kernel
theorem dX9_moves_61 : decode cX9_moves 61 = .ok (.ireturn, 1) := by decide +kernel
theorem dX9_moves_62 : decode cX9_moves 62 = .ok (.aload_n 0, 1) := by decide +kernel
theorem dX9_moves_63 : decode cX9_moves 63 = .ok (.invokevirtual 150, 3) := by decide +kernel
theorem dX9_moves_66 : decode cX9_moves 66 = .ok (.aload_n 0, 1) := by decide +kernel
theorem dX9_moves_67 : decode cX9_moves 67 = .ok (.getfield 19, 3) := by decide +kernel
theorem dX9_moves_70 : decode cX9_moves 70 = .ok (.iconst 1, 1) := by decide +kernel
theorem dX9_moves_71 : decode cX9_moves 71 = .ok (.iconst 4, 1) := by decide +kernel
theorem dX9_moves_72 : decode cX9_moves 72 = .ok (.iload_n 1, 1) := by decide +kernel
theorem dX9_moves_73 : decode cX9_moves 73 = .ok (.imul, 1) := by decide +kernel
theorem dX9_moves_74 : decode cX9_moves 74 = .ok (.iadd, 1) := by decide +kernel
theorem dX9_moves_75 : decode cX9_moves 75 = .ok (.iload_n 2, 1) := by decide +kernel
theorem dX9_moves_76 : decode cX9_moves 76 = .ok (.ifCond .ge 8, 3) := by decide +kernel
theorem dX9_moves_79 : decode cX9_moves 79 = .ok (.bipush (-9), 2) := by decide +kernel
theorem dX9_moves_81 : decode cX9_moves 81 = .ok (.goto 4, 3) := by decide +kernel
theorem dX9_moves_84 : decode cX9_moves 84 = .ok (.iload_n 2, 1) := by decide +kernel
theorem dX9_moves_85 : decode cX9_moves 85 = .ok (.iastore, 1) := by decide +kernel
theorem dX9_moves_86 : decode cX9_moves 86 = .ok (.iload_n 3, 1) := by decide +kernel
theorem dX9_moves_87 : decode cX9_moves 87 = .ok (.ireturn, 1) := by decide +kernel
set_option maxRecDepth 20000 in
theorem ggX9_talks_X9_isTenant : GoodIn wsX9_talks wsX9_isTenant := goodIn_r _ [8, 2, 9, 10, 7, 11, 22, 23, 24, 25, 26, 27, 28, 29, 30, 31, 32, 33, 34, 35, 36, 37, 38, 39, 40, 41, 42, 43] (by decide +kernel) (by decide +kernel)
set_option maxRecDepth 20000 in
theorem gX9_talks_X9_isTenant : GoodIn wsX9_talks (wsV RX9 137 RX9 yX9_isTenant wsX9_isTenant) := goodIn_app (goodIn_of _ (by decide +kernel)) ggX9_talks_X9_isTenant
set_option maxRecDepth 20000 in
theorem ggX9_talks_X9_in : GoodIn wsX9_talks wsX9_in := goodIn_r _ [11] (by decide +kernel) (by decide +kernel)
set_option maxRecDepth 20000 in
theorem gX9_talks_X9_in : GoodIn wsX9_talks (va_wsS RX9 48 yX9_in wsX9_in) := goodIn_app (goodIn_of _ (by decide +kernel)) ggX9_talks_X9_in
set_option maxRecDepth 20000 in
theorem ggX9_talks_X9_free : GoodIn wsX9_talks wsX9_free := goodIn_r _ [15, 2, 22, 23, 24, 25, 26, 27, 28, 29, 30, 31, 32, 33, 34, 35, 36, 37, 38, 39, 40, 41, 42, 43] (by decide +kernel) (by decide +kernel)
set_option maxRecDepth 20000 in
theorem gX9_talks_X9_free : GoodIn wsX9_talks (wsV RX9 115 RX9 yX9_free wsX9_free) := goodIn_app (goodIn_of _ (by decide +kernel)) ggX9_talks_X9_free
set_option maxRecDepth 20000 in
theorem ggX9_talks_X9_notes : GoodIn wsX9_talks wsX9_notes := goodIn_r _ [19, 20, 21, 3, 22, 23, 24, 25, 26, 27, 28, 29, 30, 31, 32, 33, 34, 35, 36, 37, 38, 39, 40, 41, 42, 43] (by decide +kernel) (by decide +kernel)
set_option maxRecDepth 20000 in
theorem gX9_talks_X9_notes : GoodIn wsX9_talks (wsV RX9 150 RX9 yX9_notes wsX9_notes) := goodIn_app (goodIn_of _ (by decide +kernel)) ggX9_talks_X9_notes
theorem dX9_talks_0 : decode cX9_talks 0 = .ok (.aload_n 0, 1) := by decide +kernel
theorem dX9_talks_1 : decode cX9_talks 1 = .ok (.iload_n 1, 1) := by decide +kernel
theorem dX9_talks_2 : decode cX9_talks 2 = .ok (.invokevirtual 137, 3) := by decide +kernel
theorem dX9_talks_5 : decode cX9_talks 5 = .ok (.ifCond .eq 23, 3) := by decide +kernel
theorem dX9_talks_8 : decode cX9_talks 8 = .ok (.iload_n 2, 1) := by decide +kernel
theorem dX9_talks_9 : decode cX9_talks 9 = .ok (.i2l, 1) := by decide +kernel
theorem dX9_talks_10 : decode cX9_talks 10 = .ok (.lconst 1, 1) := by decide +kernel
theorem dX9_talks_11 : decode cX9_talks 11 = .ok (.ldc2_w 153, 3) := by decide +kernel
theorem dX9_talks_14 : decode cX9_talks 14 = .ok (.invokestatic 48, 3) := by decide +kernel
theorem dX9_talks_17 : decode cX9_talks 17 = .ok (.ifCond .eq 11, 3) := by decide +kernel
theorem dX9_talks_20 : decode cX9_talks 20 = .ok (.aload_n 0, 1) := by decide +kernel
theorem dX9_talks_21 : decode cX9_talks 21 = .ok (.iload_n 3, 1) := by decide +kernel
theorem dX9_talks_22 : decode cX9_talks 22 = .ok (.invokevirtual 137, 3) := by decide +kernel
theorem dX9_talks_25 : decode cX9_talks 25 = .ok (.ifCond .ne 5, 3) := by decide +kernel
theorem dX9_talks_28 : decode cX9_talks 28 = .ok (.iconst (-1), 1) := by decide +kernel
theorem dX9_talks_29 : decode cX9_talks 29 = .ok (.ireturn, 1) := by decide +kernel
theorem dX9_talks_30 : decode cX9_talks 30 = .ok (.iload_n 3, 1) := by decide +kernel
theorem dX9_talks_31 : decode cX9_talks 31 = .ok (.iload_n 1, 1) := by decide +kernel
theorem dX9_talks_32 : decode cX9_talks 32 = .ok (.if_icmp .eq 32, 3) := by decide +kernel
theorem dX9_talks_35 : decode cX9_talks 35 = .ok (.aload_n 0, 1) := by decide +kernel
theorem dX9_talks_36 : decode cX9_talks 36 = .ok (.getfield 16, 3) := by decide +kernel
theorem dX9_talks_39 : decode cX9_talks 39 = .ok (.bipush 9, 2) := by decide +kernel
theorem dX9_talks_41 : decode cX9_talks 41 = .ok (.iconst 5, 1) := by decide +kernel
theorem dX9_talks_42 : decode cX9_talks 42 = .ok (.iload_n 3, 1) := by decide +kernel
theorem dX9_talks_43 : decode cX9_talks 43 = .ok (.imul, 1) := by decide +kernel
theorem dX9_talks_44 : decode cX9_talks 44 = .ok (.iadd, 1) := by decide +kernel
theorem dX9_talks_45 : decode cX9_talks 45 = .ok (.iconst 2, 1) := by decide +kernel
theorem dX9_talks_46 : decode cX9_talks 46 = .ok (.iadd, 1) := by decide +kernel
theorem dX9_talks_47 : decode cX9_talks 47 = .ok (.iaload, 1) := by decide +kernel
theorem dX9_talks_48 : decode cX9_talks 48 = .ok (.aload_n 0, 1) := by decide +kernel
theorem dX9_talks_49 : decode cX9_talks 49 = .ok (.getfield 16, 3) := by decide +kernel
theorem dX9_talks_52 : decode cX9_talks 52 = .ok (.bipush 9, 2) := by decide +kernel
theorem dX9_talks_54 : decode cX9_talks 54 = .ok (.iconst 5, 1) := by decide +kernel
theorem dX9_talks_55 : decode cX9_talks 55 = .ok (.iload_n 1, 1) := by decide +kernel
theorem dX9_talks_56 : decode cX9_talks 56 = .ok (.imul, 1) := by decide +kernel
theorem dX9_talks_57 : decode cX9_talks 57 = .ok (.iadd, 1) := by decide +kernel
theorem dX9_talks_58 : decode cX9_talks 58 = .ok (.iconst 2, 1) := by decide +kernel
theorem dX9_talks_59 : decode cX9_talks 59 = .ok (.iadd, 1) := by decide +kernel
theorem dX9_talks_60 : decode cX9_talks 60 = .ok (.iaload, 1) := by decide +kernel
theorem dX9_talks_61 : decode cX9_talks 61 = .ok (.if_icmp .le 7, 3) := by decide +kernel
theorem dX9_talks_64 : decode cX9_talks 64 = .ok (.iconst 1, 1) := by decide +kernel
theorem dX9_talks_65 : decode cX9_talks 65 = .ok (.goto 4, 3) := by decide +kernel
theorem dX9_talks_68 : decode cX9_talks 68 = .ok (.iconst 0, 1) := by decide +kernel
theorem dX9_talks_69 : decode cX9_talks 69 = .ok (.istore 4, 2) := by decide +kernel
theorem dX9_talks_71 : decode cX9_talks 71 = .ok (.aload_n 0, 1) := by decide +kernel
theorem dX9_talks_72 : decode cX9_talks 72 = .ok (.getfield 19, 3) := by decide +kernel
theorem dX9_talks_75 : decode cX9_talks 75 = .ok (.iconst 2, 1) := by decide +kernel
theorem dX9_talks_76 : decode cX9_talks 76 = .ok (.iconst 4, 1) := by decide +kernel
theorem dX9_talks_77 : decode cX9_talks 77 = .ok (.iload_n 1, 1) := by decide +kernel
theorem dX9_talks_78 : decode cX9_talks 78 = .ok (.imul, 1) := by decide +kernel
theorem dX9_talks_79 : decode cX9_talks 79 = .ok (.iadd, 1) := by decide +kernel
theorem dX9_talks_80 : decode cX9_talks 80 = .ok (.iaload, 1) := by decide +kernel
theorem dX9_talks_81 : decode cX9_talks 81 = .ok (.iload_n 2, 1) := by decide +kernel
theorem dX9_talks_82 : decode cX9_talks 82 = .ok (.iadd, 1) := by decide +kernel
theorem dX9_talks_83 : decode cX9_talks 83 = .ok (.aload_n 0, 1) := by decide +kernel
theorem dX9_talks_84 : decode cX9_talks 84 = .ok (.iload_n 1, 1) := by decide +kernel
theorem dX9_talks_85 : decode cX9_talks 85 = .ok (.invokevirtual 115, 3) := by decide +kernel
theorem dX9_talks_88 : decode cX9_talks 88 = .ok (.if_icmp .gt 8, 3) := by decide +kernel
theorem dX9_talks_91 : decode cX9_talks 91 = .ok (.iload 4, 2) := by decide +kernel
theorem dX9_talks_93 : decode cX9_talks 93 = .ok (.ifCond .ne 6, 3) := by decide +kernel
theorem dX9_talks_96 : decode cX9_talks 96 = .ok (.bipush (-2), 2) := by decide +kernel
theorem dX9_talks_98 : decode cX9_talks 98 = .ok (.ireturn, 1) := by decide +kernel
theorem dX9_talks_99 : decode cX9_talks 99 = .ok (.aload_n 0, 1) := by decide +kernel
theorem dX9_talks_100 : decode cX9_talks 100 = .ok (.invokevirtual 150, 3) := by decide +kernel
theorem dX9_talks_103 : decode cX9_talks 103 = .ok (.aload_n 0, 1) := by decide +kernel
theorem dX9_talks_104 : decode cX9_talks 104 = .ok (.getfield 19, 3) := by decide +kernel
theorem dX9_talks_107 : decode cX9_talks 107 = .ok (.iconst 2, 1) := by decide +kernel
theorem dX9_talks_108 : decode cX9_talks 108 = .ok (.iconst 4, 1) := by decide +kernel
theorem dX9_talks_109 : decode cX9_talks 109 = .ok (.iload_n 1, 1) := by decide +kernel
theorem dX9_talks_110 : decode cX9_talks 110 = .ok (.imul, 1) := by decide +kernel
theorem dX9_talks_111 : decode cX9_talks 111 = .ok (.iadd, 1) := by decide +kernel
theorem dX9_talks_112 : decode cX9_talks 112 = .ok (.dup2, 1) := by decide +kernel
theorem dX9_talks_113 : decode cX9_talks 113 = .ok (.iaload, 1) := by decide +kernel
theorem dX9_talks_114 : decode cX9_talks 114 = .ok (.iload_n 2, 1) := by decide +kernel
theorem dX9_talks_115 : decode cX9_talks 115 = .ok (.iadd, 1) := by decide +kernel
theorem dX9_talks_116 : decode cX9_talks 116 = .ok (.iastore, 1) := by decide +kernel
theorem dX9_talks_117 : decode cX9_talks 117 = .ok (.aload_n 0, 1) := by decide +kernel
theorem dX9_talks_118 : decode cX9_talks 118 = .ok (.getfield 19, 3) := by decide +kernel
theorem dX9_talks_121 : decode cX9_talks 121 = .ok (.iconst 3, 1) := by decide +kernel
theorem dX9_talks_122 : decode cX9_talks 122 = .ok (.iconst 4, 1) := by decide +kernel
theorem dX9_talks_123 : decode cX9_talks 123 = .ok (.iload_n 3, 1) := by decide +kernel
theorem dX9_talks_124 : decode cX9_talks 124 = .ok (.imul, 1) := by decide +kernel
theorem dX9_talks_125 : decode cX9_talks 125 = .ok (.iadd, 1) := by decide +kernel
theorem dX9_talks_126 : decode cX9_talks 126 = .ok (.dup2, 1) := by decide +kernel
theorem dX9_talks_127 : decode cX9_talks 127 = .ok (.iaload, 1) := by decide +kernel
theorem dX9_talks_128 : decode cX9_talks 128 = .ok (.iload_n 2, 1) := by decide +kernel
theorem dX9_talks_129 : decode cX9_talks 129 = .ok (.iadd, 1) := by decide +kernel
theorem dX9_talks_130 : decode cX9_talks 130 = .ok (.iastore, 1) := by decide +kernel
theorem dX9_talks_131 : decode cX9_talks 131 = .ok (.aload_n 0, 1) := by decide +kernel
theorem dX9_talks_132 : decode cX9_talks 132 = .ok (.getfield 19, 3) := by decide +kernel
theorem dX9_talks_135 : decode cX9_talks 135 = .ok (.iconst 2, 1) := by decide +kernel
theorem dX9_talks_136 : decode cX9_talks 136 = .ok (.iconst 4, 1) := by decide +kernel
theorem dX9_talks_137 : decode cX9_talks 137 = .ok (.iload_n 1, 1) := by decide +kernel
theorem dX9_talks_138 : decode cX9_talks 138 = .ok (.imul, 1) := by decide +kernel
theorem dX9_talks_139 : decode cX9_talks 139 = .ok (.iadd, 1) := by decide +kernel
theorem dX9_talks_140 : decode cX9_talks 140 = .ok (.iaload, 1) := by decide +kernel
theorem dX9_talks_141 : decode cX9_talks 141 = .ok (.ireturn, 1) := by decide +kernel
set_option maxRecDepth 20000 in
theorem ggX9_debts_X9_debt : GoodIn wsX9_debts wsX9_debt := goodIn_r _ [6, 7, 8, 9, 10, 11, 12, 13, 14, 15, 16, 17, 18, 19, 20, 21, 22, 23, 24, 25, 26, 27, 28, 29] (by decide +kernel) (by decide +kernel)
set_option maxRecDepth 20000 in
theorem gX9_debts_X9_debt : GoodIn wsX9_debts (wsV RX9 155 RX9 yX9_debt wsX9_debt) := goodIn_app (goodIn_of _ (by decide +kernel)) ggX9_debts_X9_debt
theorem dX9_debts_0 : decode cX9_debts 0 = .ok (.iconst 0, 1) := by decide +kernel
theorem dX9_debts_1 : decode cX9_debts 1 = .ok (.istore_n 1, 1) := by decide +kernel
theorem dX9_debts_2 : decode cX9_debts 2 = .ok (.iconst 0, 1) := by decide +kernel
theorem dX9_debts_3 : decode cX9_debts 3 = .ok (.istore_n 2, 1) := by decide +kernel
theorem dX9_debts_4 : decode cX9_debts 4 = .ok (.iload_n 2, 1) := by decide +kernel
theorem dX9_debts_5 : decode cX9_debts 5 = .ok (.aload_n 0, 1) := by decide +kernel
theorem dX9_debts_6 : decode cX9_debts 6 = .ok (.getfield 16, 3) := by decide +kernel
theorem dX9_debts_9 : decode cX9_debts 9 = .ok (.iconst 1, 1) := by decide +kernel
theorem dX9_debts_10 : decode cX9_debts 10 = .ok (.iaload, 1) := by decide +kernel
theorem dX9_debts_11 : decode cX9_debts 11 = .ok (.if_icmp .ge 17, 3) := by decide +kernel
theorem dX9_debts_14 : decode cX9_debts 14 = .ok (.iload_n 1, 1) := by decide +kernel
theorem dX9_debts_15 : decode cX9_debts 15 = .ok (.aload_n 0, 1) := by decide +kernel
theorem dX9_debts_16 : decode cX9_debts 16 = .ok (.iload_n 2, 1) := by decide +kernel
theorem dX9_debts_17 : decode cX9_debts 17 = .ok (.invokevirtual 155, 3) := by decide +kernel
theorem dX9_debts_20 : decode cX9_debts 20 = .ok (.iadd, 1) := by decide +kernel
theorem dX9_debts_21 : decode cX9_debts 21 = .ok (.istore_n 1, 1) := by decide +kernel
theorem dX9_debts_22 : decode cX9_debts 22 = .ok (.iinc 2 1, 3) := by decide +kernel
theorem dX9_debts_25 : decode cX9_debts 25 = .ok (.goto (-21), 3) := by decide +kernel
theorem dX9_debts_28 : decode cX9_debts 28 = .ok (.iload_n 1, 1) := by decide +kernel
theorem dX9_debts_29 : decode cX9_debts 29 = .ok (.ireturn, 1) := by decide +kernel
set_option maxRecDepth 20000 in
theorem ggX9_evening_X9_notes : GoodIn wsX9_evening wsX9_notes := goodIn_r _ [7, 8, 9, 1, 30, 31, 32, 33, 34, 35, 36, 37, 38, 39, 40, 41, 42, 43, 44, 45, 46, 47, 48, 49, 50, 51] (by decide +kernel) (by decide +kernel)
set_option maxRecDepth 20000 in
theorem gX9_evening_X9_notes : GoodIn wsX9_evening (wsV RX9 150 RX9 yX9_notes wsX9_notes) := goodIn_app (goodIn_of _ (by decide +kernel)) ggX9_evening_X9_notes
set_option maxRecDepth 20000 in
theorem ggX9_evening_X9_roomOf : GoodIn wsX9_evening wsX9_roomOf := goodIn_r _ [13, 1, 30, 31, 32, 33, 34, 35, 36, 37, 38, 39, 40, 41, 42, 43, 44, 45, 46, 47, 48, 49, 50, 51] (by decide +kernel) (by decide +kernel)
set_option maxRecDepth 20000 in
theorem gX9_evening_X9_roomOf : GoodIn wsX9_evening (wsV RX9 122 RX9 yX9_roomOf wsX9_roomOf) := goodIn_app (goodIn_of _ (by decide +kernel)) ggX9_evening_X9_roomOf
set_option maxRecDepth 20000 in
theorem ggX9_evening_X9_debt : GoodIn wsX9_evening wsX9_debt := goodIn_r _ [17, 1, 30, 31, 32, 33, 34, 35, 36, 37, 38, 39, 40, 41, 42, 43, 44, 45, 46, 47, 48, 49, 50, 51] (by decide +kernel) (by decide +kernel)
set_option maxRecDepth 20000 in
theorem gX9_evening_X9_debt : GoodIn wsX9_evening (wsV RX9 155 RX9 yX9_debt wsX9_debt) := goodIn_app (goodIn_of _ (by decide +kernel)) ggX9_evening_X9_debt
set_option maxRecDepth 20000 in
theorem ggX9_evening_X9_silent : GoodIn wsX9_evening wsX9_silent := goodIn_r _ [21, 1, 22, 23, 24, 6, 25, 2, 30, 31, 32, 33, 34, 35, 36, 37, 38, 39, 40, 41, 42, 43, 44, 45, 46, 47, 48, 49, 50, 51] (by decide +kernel) (by decide +kernel)
set_option maxRecDepth 20000 in
theorem gX9_evening_X9_silent : GoodIn wsX9_evening (wsV RX9 142 RX9 yX9_silent wsX9_silent) := goodIn_app (goodIn_of _ (by decide +kernel)) ggX9_evening_X9_silent
set_option maxRecDepth 20000 in
theorem ggX9_evening_X9_debts : GoodIn wsX9_evening wsX9_debts := goodIn_r _ [29, 2, 14, 15, 16, 6, 17, 1, 30, 31, 32, 33, 34, 35, 36, 37, 38, 39, 40, 41, 42, 43, 44, 45, 46, 47, 48, 49, 50, 51] (by decide +kernel) (by decide +kernel)
set_option maxRecDepth 20000 in
theorem gX9_evening_X9_debts : GoodIn wsX9_evening (wsV RX9 158 RX9 yX9_debts wsX9_debts) := goodIn_app (goodIn_of _ (by decide +kernel)) ggX9_evening_X9_debts
theorem dX9_evening_0 : decode cX9_evening 0 = .ok (.aload_n 0, 1) := by decide +kernel
theorem dX9_evening_1 : decode cX9_evening 1 = .ok (.getfield 19, 3) := by decide +kernel
theorem dX9_evening_4 : decode cX9_evening 4 = .ok (.iconst 0, 1) := by decide +kernel
theorem dX9_evening_5 : decode cX9_evening 5 = .ok (.iaload, 1) := by decide +kernel
theorem dX9_evening_6 : decode cX9_evening 6 = .ok (.bipush 99, 2) := by decide +kernel
theorem dX9_evening_8 : decode cX9_evening 8 = .ok (.if_icmp .ne 6, 3) := by decide +kernel
theorem dX9_evening_11 : decode cX9_evening 11 = .ok (.bipush (-2), 2) := by decide +kernel
theorem dX9_evening_13 : decode cX9_evening 13 = .ok (.ireturn, 1) := by decide +kernel
theorem dX9_evening_14 : decode cX9_evening 14 = .ok (.aload_n 0, 1) := by decide +kernel
theorem dX9_evening_15 : decode cX9_evening 15 = .ok (.invokevirtual 150, 3) := by decide +kernel
theorem dX9_evening_18 : decode cX9_evening 18 = .ok (.iconst 0, 1) := by decide +kernel
theorem dX9_evening_19 : decode cX9_evening 19 = .ok (.istore_n 1, 1) := by decide +kernel
theorem dX9_evening_20 : decode cX9_evening 20 = .ok (.iload_n 1, 1) := by decide +kernel
theorem dX9_evening_21 : decode cX9_evening 21 = .ok (.aload_n 0, 1) := by decide +kernel
theorem dX9_evening_22 : decode cX9_evening 22 = .ok (.getfield 16, 3) := by decide +kernel
theorem dX9_evening_25 : decode cX9_evening 25 = .ok (.iconst 1, 1) := by decide +kernel
theorem dX9_evening_26 : decode cX9_evening 26 = .ok (.iaload, 1) := by decide +kernel
theorem dX9_evening_27 : decode cX9_evening 27 = .ok (.if_icmp .ge 76, 3) := by decide +kernel
theorem dX9_evening_30 : decode cX9_evening 30 = .ok (.aload_n 0, 1) := by decide +kernel
theorem dX9_evening_31 : decode cX9_evening 31 = .ok (.iload_n 1, 1) := by decide +kernel
theorem dX9_evening_32 : decode cX9_evening 32 = .ok (.invokevirtual 122, 3) := by decide +kernel
theorem dX9_evening_35 : decode cX9_evening 35 = .ok (.bipush (-9), 2) := by decide +kernel
theorem dX9_evening_37 : decode cX9_evening 37 = .ok (.if_icmp .eq 60, 3) := by decide +kernel
theorem dX9_evening_40 : decode cX9_evening 40 = .ok (.aload_n 0, 1) := by decide +kernel
theorem dX9_evening_41 : decode cX9_evening 41 = .ok (.iload_n 1, 1) := by decide +kernel
theorem dX9_evening_42 : decode cX9_evening 42 = .ok (.invokevirtual 155, 3) := by decide +kernel
theorem dX9_evening_45 : decode cX9_evening 45 = .ok (.aload_n 0, 1) := by decide +kernel
theorem dX9_evening_46 : decode cX9_evening 46 = .ok (.getfield 16, 3) := by decide +kernel
theorem dX9_evening_49 : decode cX9_evening 49 = .ok (.iconst 3, 1) := by decide +kernel
theorem dX9_evening_50 : decode cX9_evening 50 = .ok (.aload_n 0, 1) := by decide +kernel
theorem dX9_evening_51 : decode cX9_evening 51 = .ok (.iload_n 1, 1) := by decide +kernel
theorem dX9_evening_52 : decode cX9_evening 52 = .ok (.invokevirtual 122, 3) := by decide +kernel
theorem dX9_evening_55 : decode cX9_evening 55 = .ok (.iadd, 1) := by decide +kernel
theorem dX9_evening_56 : decode cX9_evening 56 = .ok (.iaload, 1) := by decide +kernel
theorem dX9_evening_57 : decode cX9_evening 57 = .ok (.iadd, 1) := by decide +kernel
theorem dX9_evening_58 : decode cX9_evening 58 = .ok (.aload_n 0, 1) := by decide +kernel
theorem dX9_evening_59 : decode cX9_evening 59 = .ok (.iload_n 1, 1) := by decide +kernel
theorem dX9_evening_60 : decode cX9_evening 60 = .ok (.invokevirtual 142, 3) := by decide +kernel
theorem dX9_evening_63 : decode cX9_evening 63 = .ok (.isub, 1) := by decide +kernel
theorem dX9_evening_64 : decode cX9_evening 64 = .ok (.istore_n 2, 1) := by decide +kernel
theorem dX9_evening_65 : decode cX9_evening 65 = .ok (.aload_n 0, 1) := by decide +kernel
theorem dX9_evening_66 : decode cX9_evening 66 = .ok (.getfield 19, 3) := by decide +kernel
theorem dX9_evening_69 : decode cX9_evening 69 = .ok (.iconst 4, 1) := by decide +kernel
theorem dX9_evening_70 : decode cX9_evening 70 = .ok (.iconst 4, 1) := by decide +kernel
theorem dX9_evening_71 : decode cX9_evening 71 = .ok (.iload_n 1, 1) := by decide +kernel
theorem dX9_evening_72 : decode cX9_evening 72 = .ok (.imul, 1) := by decide +kernel
theorem dX9_evening_73 : decode cX9_evening 73 = .ok (.iadd, 1) := by decide +kernel
theorem dX9_evening_74 : decode cX9_evening 74 = .ok (.iload_n 2, 1) := by decide +kernel
theorem dX9_evening_75 : decode cX9_evening 75 = .ok (.ifCond .ge 7, 3) := by decide +kernel
theorem dX9_evening_78 : decode cX9_evening 78 = .ok (.iconst 0, 1) := by decide +kernel
theorem dX9_evening_79 : decode cX9_evening 79 = .ok (.goto 17, 3) := by decide +kernel
theorem dX9_evening_82 : decode cX9_evening 82 = .ok (.iload_n 2, 1) := by decide +kernel
theorem dX9_evening_83 : decode cX9_evening 83 = .ok (.sipush 9999, 3) := by decide +kernel
theorem dX9_evening_86 : decode cX9_evening 86 = .ok (.if_icmp .le 9, 3) := by decide +kernel
theorem dX9_evening_89 : decode cX9_evening 89 = .ok (.sipush 9999, 3) := by decide +kernel
theorem dX9_evening_92 : decode cX9_evening 92 = .ok (.goto 4, 3) := by decide +kernel
theorem dX9_evening_95 : decode cX9_evening 95 = .ok (.iload_n 2, 1) := by decide +kernel
theorem dX9_evening_96 : decode cX9_evening 96 = .ok (.iastore, 1) := by decide +kernel
theorem dX9_evening_97 : decode cX9_evening 97 = .ok (.iinc 1 1, 3) := by decide +kernel
theorem dX9_evening_100 : decode cX9_evening 100 = .ok (.goto (-80), 3) := by decide +kernel
theorem dX9_evening_103 : decode cX9_evening 103 = .ok (.iconst 0, 1) := by decide +kernel
theorem dX9_evening_104 : decode cX9_evening 104 = .ok (.istore_n 1, 1) := by decide +kernel
theorem dX9_evening_105 : decode cX9_evening 105 = .ok (.iload_n 1, 1) := by decide +kernel
theorem dX9_evening_106 : decode cX9_evening 106 = .ok (.aload_n 0, 1) := by decide +kernel
theorem dX9_evening_107 : decode cX9_evening 107 = .ok (.getfield 16, 3) := by decide +kernel
theorem dX9_evening_110 : decode cX9_evening 110 = .ok (.iconst 1, 1) := by decide +kernel
theorem dX9_evening_111 : decode cX9_evening 111 = .ok (.iaload, 1) := by decide +kernel
theorem dX9_evening_112 : decode cX9_evening 112 = .ok (.if_icmp .ge 31, 3) := by decide +kernel
theorem dX9_evening_115 : decode cX9_evening 115 = .ok (.aload_n 0, 1) := by decide +kernel
theorem dX9_evening_116 : decode cX9_evening 116 = .ok (.getfield 19, 3) := by decide +kernel
theorem dX9_evening_119 : decode cX9_evening 119 = .ok (.iconst 2, 1) := by decide +kernel
theorem dX9_evening_120 : decode cX9_evening 120 = .ok (.iconst 4, 1) := by decide +kernel
theorem dX9_evening_121 : decode cX9_evening 121 = .ok (.iload_n 1, 1) := by decide +kernel
theorem dX9_evening_122 : decode cX9_evening 122 = .ok (.imul, 1) := by decide +kernel
theorem dX9_evening_123 : decode cX9_evening 123 = .ok (.iadd, 1) := by decide +kernel
theorem dX9_evening_124 : decode cX9_evening 124 = .ok (.iconst 0, 1) := by decide +kernel
theorem dX9_evening_125 : decode cX9_evening 125 = .ok (.iastore, 1) := by decide +kernel
theorem dX9_evening_126 : decode cX9_evening 126 = .ok (.aload_n 0, 1) := by decide +kernel
theorem dX9_evening_127 : decode cX9_evening 127 = .ok (.getfield 19, 3) := by decide +kernel
theorem dX9_evening_130 : decode cX9_evening 130 = .ok (.iconst 3, 1) := by decide +kernel
theorem dX9_evening_131 : decode cX9_evening 131 = .ok (.iconst 4, 1) := by decide +kernel
theorem dX9_evening_132 : decode cX9_evening 132 = .ok (.iload_n 1, 1) := by decide +kernel
theorem dX9_evening_133 : decode cX9_evening 133 = .ok (.imul, 1) := by decide +kernel
theorem dX9_evening_134 : decode cX9_evening 134 = .ok (.iadd, 1) := by decide +kernel
theorem dX9_evening_135 : decode cX9_evening 135 = .ok (.iconst 0, 1) := by decide +kernel
theorem dX9_evening_136 : decode cX9_evening 136 = .ok (.iastore, 1) := by decide +kernel
theorem dX9_evening_137 : decode cX9_evening 137 = .ok (.iinc 1 1, 3) := by decide +kernel
theorem dX9_evening_140 : decode cX9_evening 140 = .ok (.goto (-35), 3) := by decide +kernel
theorem dX9_evening_143 : decode cX9_evening 143 = .ok (.aload_n 0, 1) := by decide +kernel
theorem dX9_evening_144 : decode cX9_evening 144 = .ok (.getfield 19, 3) := by decide +kernel
theorem dX9_evening_147 : decode cX9_evening 147 = .ok (.iconst 0, 1) := by decide +kernel
theorem dX9_evening_148 : decode cX9_evening 148 = .ok (.dup2, 1) := by decide +kernel
theorem dX9_evening_149 : decode cX9_evening 149 = .ok (.iaload, 1) := by decide +kernel
theorem dX9_evening_150 : decode cX9_evening 150 = .ok (.iconst 1, 1) := by decide +kernel
theorem dX9_evening_151 : decode cX9_evening 151 = .ok (.iadd, 1) := by decide +kernel
theorem dX9_evening_152 : decode cX9_evening 152 = .ok (.iastore, 1) := by decide +kernel
theorem dX9_evening_153 : decode cX9_evening 153 = .ok (.aload_n 0, 1) := by decide +kernel
theorem dX9_evening_154 : decode cX9_evening 154 = .ok (.invokevirtual 158, 3) := by decide +kernel
theorem dX9_evening_157 : decode cX9_evening 157 = .ok (.ireturn, 1) := by decide +kernel
set_option maxRecDepth 20000 in
theorem ggX9_lends_X9_isTenant : GoodIn wsX9_lends wsX9_isTenant := goodIn_r _ [7, 8, 9, 10, 6, 11, 22, 23, 24, 25, 26, 27, 28, 29, 30, 31, 32, 33, 34, 35, 36, 37, 38, 39, 40, 41, 42, 43] (by decide +kernel) (by decide +kernel)
set_option maxRecDepth 20000 in
theorem gX9_lends_X9_isTenant : GoodIn wsX9_lends (wsV RX9 137 RX9 yX9_isTenant wsX9_isTenant) := goodIn_app (goodIn_of _ (by decide +kernel)) ggX9_lends_X9_isTenant
set_option maxRecDepth 20000 in
theorem ggX9_lends_X9_in : GoodIn wsX9_lends wsX9_in := goodIn_r _ [11] (by decide +kernel) (by decide +kernel)
set_option maxRecDepth 20000 in
theorem gX9_lends_X9_in : GoodIn wsX9_lends (va_wsS RX9 48 yX9_in wsX9_in) := goodIn_app (goodIn_of _ (by decide +kernel)) ggX9_lends_X9_in
set_option maxRecDepth 20000 in
theorem ggX9_lends_X9_debt : GoodIn wsX9_lends wsX9_debt := goodIn_r _ [15, 2, 22, 23, 24, 25, 26, 27, 28, 29, 30, 31, 32, 33, 34, 35, 36, 37, 38, 39, 40, 41, 42, 43] (by decide +kernel) (by decide +kernel)
set_option maxRecDepth 20000 in
theorem gX9_lends_X9_debt : GoodIn wsX9_lends (wsV RX9 155 RX9 yX9_debt wsX9_debt) := goodIn_app (goodIn_of _ (by decide +kernel)) ggX9_lends_X9_debt
set_option maxRecDepth 20000 in
theorem ggX9_lends_X9_notes : GoodIn wsX9_lends wsX9_notes := goodIn_r _ [19, 20, 21, 2, 22, 23, 24, 25, 26, 27, 28, 29, 30, 31, 32, 33, 34, 35, 36, 37, 38, 39, 40, 41, 42, 43] (by decide +kernel) (by decide +kernel)
set_option maxRecDepth 20000 in
theorem gX9_lends_X9_notes : GoodIn wsX9_lends (wsV RX9 150 RX9 yX9_notes wsX9_notes) := goodIn_app (goodIn_of _ (by decide +kernel)) ggX9_lends_X9_notes
theorem dX9_lends_0 : decode cX9_lends 0 = .ok (.aload_n 0, 1) := by decide +kernel
theorem dX9_lends_1 : decode cX9_lends 1 = .ok (.iload_n 1, 1) := by decide +kernel
theorem dX9_lends_2 : decode cX9_lends 2 = .ok (.invokevirtual 137, 3) := by decide +kernel
theorem dX9_lends_5 : decode cX9_lends 5 = .ok (.ifCond .eq 28, 3) := by decide +kernel
theorem dX9_lends_8 : decode cX9_lends 8 = .ok (.aload_n 0, 1) := by decide +kernel
theorem dX9_lends_9 : decode cX9_lends 9 = .ok (.iload_n 2, 1) := by decide +kernel
theorem dX9_lends_10 : decode cX9_lends 10 = .ok (.invokevirtual 137, 3) := by decide +kernel
theorem dX9_lends_13 : decode cX9_lends 13 = .ok (.ifCond .eq 20, 3) := by decide +kernel
theorem dX9_lends_16 : decode cX9_lends 16 = .ok (.iload_n 1, 1) := by decide +kernel
theorem dX9_lends_17 : decode cX9_lends 17 = .ok (.iload_n 2, 1) := by decide +kernel
theorem dX9_lends_18 : decode cX9_lends 18 = .ok (.if_icmp .eq 15, 3) := by decide +kernel
theorem dX9_lends_21 : decode cX9_lends 21 = .ok (.iload_n 3, 1) := by decide +kernel
theorem dX9_lends_22 : decode cX9_lends 22 = .ok (.i2l, 1) := by decide +kernel
theorem dX9_lends_23 : decode cX9_lends 23 = .ok (.lconst 1, 1) := by decide +kernel
theorem dX9_lends_24 : decode cX9_lends 24 = .ok (.ldc2_w 162, 3) := by decide +kernel
theorem dX9_lends_27 : decode cX9_lends 27 = .ok (.invokestatic 48, 3) := by decide +kernel
theorem dX9_lends_30 : decode cX9_lends 30 = .ok (.ifCond .ne 5, 3) := by decide +kernel
theorem dX9_lends_33 : decode cX9_lends 33 = .ok (.iconst (-1), 1) := by decide +kernel
theorem dX9_lends_34 : decode cX9_lends 34 = .ok (.ireturn, 1) := by decide +kernel
theorem dX9_lends_35 : decode cX9_lends 35 = .ok (.aload_n 0, 1) := by decide +kernel
theorem dX9_lends_36 : decode cX9_lends 36 = .ok (.iload_n 2, 1) := by decide +kernel
theorem dX9_lends_37 : decode cX9_lends 37 = .ok (.invokevirtual 155, 3) := by decide +kernel
theorem dX9_lends_40 : decode cX9_lends 40 = .ok (.iload_n 3, 1) := by decide +kernel
theorem dX9_lends_41 : decode cX9_lends 41 = .ok (.if_icmp .lt 16, 3) := by decide +kernel
theorem dX9_lends_44 : decode cX9_lends 44 = .ok (.aload_n 0, 1) := by decide +kernel
theorem dX9_lends_45 : decode cX9_lends 45 = .ok (.iload_n 1, 1) := by decide +kernel
theorem dX9_lends_46 : decode cX9_lends 46 = .ok (.invokevirtual 155, 3) := by decide +kernel
theorem dX9_lends_49 : decode cX9_lends 49 = .ok (.iload_n 3, 1) := by decide +kernel
theorem dX9_lends_50 : decode cX9_lends 50 = .ok (.iadd, 1) := by decide +kernel
theorem dX9_lends_51 : decode cX9_lends 51 = .ok (.sipush 9999, 3) := by decide +kernel
theorem dX9_lends_54 : decode cX9_lends 54 = .ok (.if_icmp .le 6, 3) := by decide +kernel
theorem dX9_lends_57 : decode cX9_lends 57 = .ok (.bipush (-2), 2) := by decide +kernel
theorem dX9_lends_59 : decode cX9_lends 59 = .ok (.ireturn, 1) := by decide +kernel
theorem dX9_lends_60 : decode cX9_lends 60 = .ok (.aload_n 0, 1) := by decide +kernel
theorem dX9_lends_61 : decode cX9_lends 61 = .ok (.invokevirtual 150, 3) := by decide +kernel
theorem dX9_lends_64 : decode cX9_lends 64 = .ok (.aload_n 0, 1) := by decide +kernel
theorem dX9_lends_65 : decode cX9_lends 65 = .ok (.getfield 19, 3) := by decide +kernel
theorem dX9_lends_68 : decode cX9_lends 68 = .ok (.iconst 4, 1) := by decide +kernel
theorem dX9_lends_69 : decode cX9_lends 69 = .ok (.iconst 4, 1) := by decide +kernel
theorem dX9_lends_70 : decode cX9_lends 70 = .ok (.iload_n 2, 1) := by decide +kernel
theorem dX9_lends_71 : decode cX9_lends 71 = .ok (.imul, 1) := by decide +kernel
theorem dX9_lends_72 : decode cX9_lends 72 = .ok (.iadd, 1) := by decide +kernel
theorem dX9_lends_73 : decode cX9_lends 73 = .ok (.dup2, 1) := by decide +kernel
theorem dX9_lends_74 : decode cX9_lends 74 = .ok (.iaload, 1) := by decide +kernel
theorem dX9_lends_75 : decode cX9_lends 75 = .ok (.iload_n 3, 1) := by decide +kernel
theorem dX9_lends_76 : decode cX9_lends 76 = .ok (.isub, 1) := by decide +kernel
theorem dX9_lends_77 : decode cX9_lends 77 = .ok (.iastore, 1) := by decide +kernel
theorem dX9_lends_78 : decode cX9_lends 78 = .ok (.aload_n 0, 1) := by decide +kernel
theorem dX9_lends_79 : decode cX9_lends 79 = .ok (.getfield 19, 3) := by decide +kernel
theorem dX9_lends_82 : decode cX9_lends 82 = .ok (.iconst 4, 1) := by decide +kernel
theorem dX9_lends_83 : decode cX9_lends 83 = .ok (.iconst 4, 1) := by decide +kernel
theorem dX9_lends_84 : decode cX9_lends 84 = .ok (.iload_n 1, 1) := by decide +kernel
theorem dX9_lends_85 : decode cX9_lends 85 = .ok (.imul, 1) := by decide +kernel
theorem dX9_lends_86 : decode cX9_lends 86 = .ok (.iadd, 1) := by decide +kernel
theorem dX9_lends_87 : decode cX9_lends 87 = .ok (.dup2, 1) := by decide +kernel
theorem dX9_lends_88 : decode cX9_lends 88 = .ok (.iaload, 1) := by decide +kernel
theorem dX9_lends_89 : decode cX9_lends 89 = .ok (.iload_n 3, 1) := by decide +kernel
theorem dX9_lends_90 : decode cX9_lends 90 = .ok (.iadd, 1) := by decide +kernel
theorem dX9_lends_91 : decode cX9_lends 91 = .ok (.iastore, 1) := by decide +kernel
theorem dX9_lends_92 : decode cX9_lends 92 = .ok (.aload_n 0, 1) := by decide +kernel
theorem dX9_lends_93 : decode cX9_lends 93 = .ok (.iload_n 1, 1) := by decide +kernel
theorem dX9_lends_94 : decode cX9_lends 94 = .ok (.invokevirtual 155, 3) := by decide +kernel
theorem dX9_lends_97 : decode cX9_lends 97 = .ok (.ireturn, 1) := by decide +kernel
theorem dX9_undo_0 : decode cX9_undo 0 = .ok (.aload_n 0, 1) := by decide +kernel
theorem dX9_undo_1 : decode cX9_undo 1 = .ok (.getfield 112, 3) := by decide +kernel
theorem dX9_undo_4 : decode cX9_undo 4 = .ok (.ifCond .ne 6, 3) := by decide +kernel
theorem dX9_undo_7 : decode cX9_undo 7 = .ok (.bipush (-2), 2) := by decide +kernel
theorem dX9_undo_9 : decode cX9_undo 9 = .ok (.ireturn, 1) := by decide +kernel
theorem dX9_undo_10 : decode cX9_undo 10 = .ok (.aload_n 0, 1) := by decide +kernel
theorem dX9_undo_11 : decode cX9_undo 11 = .ok (.dup, 1) := by decide +kernel
theorem dX9_undo_12 : decode cX9_undo 12 = .ok (.getfield 112, 3) := by decide +kernel
theorem dX9_undo_15 : decode cX9_undo 15 = .ok (.iconst 1, 1) := by decide +kernel
theorem dX9_undo_16 : decode cX9_undo 16 = .ok (.isub, 1) := by decide +kernel
theorem dX9_undo_17 : decode cX9_undo 17 = .ok (.putfield 112, 3) := by decide +kernel
theorem dX9_undo_20 : decode cX9_undo 20 = .ok (.iconst 0, 1) := by decide +kernel
theorem dX9_undo_21 : decode cX9_undo 21 = .ok (.istore_n 1, 1) := by decide +kernel
theorem dX9_undo_22 : decode cX9_undo 22 = .ok (.iload_n 1, 1) := by decide +kernel
theorem dX9_undo_23 : decode cX9_undo 23 = .ok (.bipush 25, 2) := by decide +kernel
theorem dX9_undo_25 : decode cX9_undo 25 = .ok (.if_icmp .ge 29, 3) := by decide +kernel
theorem dX9_undo_28 : decode cX9_undo 28 = .ok (.aload_n 0, 1) := by decide +kernel
theorem dX9_undo_29 : decode cX9_undo 29 = .ok (.getfield 19, 3) := by decide +kernel
theorem dX9_undo_32 : decode cX9_undo 32 = .ok (.iload_n 1, 1) := by decide +kernel
theorem dX9_undo_33 : decode cX9_undo 33 = .ok (.aload_n 0, 1) := by decide +kernel
theorem dX9_undo_34 : decode cX9_undo 34 = .ok (.getfield 22, 3) := by decide +kernel
theorem dX9_undo_37 : decode cX9_undo 37 = .ok (.bipush 25, 2) := by decide +kernel
theorem dX9_undo_39 : decode cX9_undo 39 = .ok (.aload_n 0, 1) := by decide +kernel
theorem dX9_undo_40 : decode cX9_undo 40 = .ok (.getfield 112, 3) := by decide +kernel
theorem dX9_undo_43 : decode cX9_undo 43 = .ok (.imul, 1) := by decide +kernel
theorem dX9_undo_44 : decode cX9_undo 44 = .ok (.iload_n 1, 1) := by decide +kernel
theorem dX9_undo_45 : decode cX9_undo 45 = .ok (.iadd, 1) := by decide +kernel
theorem dX9_undo_46 : decode cX9_undo 46 = .ok (.iaload, 1) := by decide +kernel
theorem dX9_undo_47 : decode cX9_undo 47 = .ok (.iastore, 1) := by decide +kernel
theorem dX9_undo_48 : decode cX9_undo 48 = .ok (.iinc 1 1, 3) := by decide +kernel
theorem dX9_undo_51 : decode cX9_undo 51 = .ok (.goto (-29), 3) := by decide +kernel
theorem dX9_undo_54 : decode cX9_undo 54 = .ok (.aload_n 0, 1) := by decide +kernel
theorem dX9_undo_55 : decode cX9_undo 55 = .ok (.getfield 112, 3) := by decide +kernel
theorem dX9_undo_58 : decode cX9_undo 58 = .ok (.ireturn, 1) := by decide +kernel
set_option maxRecDepth 20000 in
theorem ggX9_now_X9_roomOf : GoodIn wsX9_now wsX9_roomOf := goodIn_r _ [7, 2, 28, 29, 30, 31, 32, 33, 34, 35, 36, 37, 38, 39, 40, 41, 42, 43, 44, 45, 46, 47, 48, 49] (by decide +kernel) (by decide +kernel)
set_option maxRecDepth 20000 in
theorem gX9_now_X9_roomOf : GoodIn wsX9_now (wsV RX9 122 RX9 yX9_roomOf wsX9_roomOf) := goodIn_app (goodIn_of _ (by decide +kernel)) ggX9_now_X9_roomOf
set_option maxRecDepth 20000 in
theorem ggX9_now_X9_more : GoodIn wsX9_now wsX9_more := goodIn_r _ [11, 1, 12, 13, 14, 6, 15, 16, 17, 18, 19, 28, 29, 30, 31, 32, 33, 34, 35, 36, 37, 38, 39, 40, 41, 42, 43, 44, 45, 46, 47, 48, 49] (by decide +kernel) (by decide +kernel)
set_option maxRecDepth 20000 in
theorem gX9_now_X9_more : GoodIn wsX9_now (wsV RX9 130 RX9 yX9_more wsX9_more) := goodIn_app (goodIn_of _ (by decide +kernel)) ggX9_now_X9_more
set_option maxRecDepth 20000 in
theorem ggX9_now_X9_debts : GoodIn wsX9_now wsX9_debts := goodIn_r _ [23, 1, 24, 25, 26, 6, 27, 2, 28, 29, 30, 31, 32, 33, 34, 35, 36, 37, 38, 39, 40, 41, 42, 43, 44, 45, 46, 47, 48, 49] (by decide +kernel) (by decide +kernel)
set_option maxRecDepth 20000 in
theorem gX9_now_X9_debts : GoodIn wsX9_now (wsV RX9 158 RX9 yX9_debts wsX9_debts) := goodIn_app (goodIn_of _ (by decide +kernel)) ggX9_now_X9_debts
theorem dX9_now_0 : decode cX9_now 0 = .ok (.iconst 0, 1) := by decide +kernel
theorem dX9_now_1 : decode cX9_now 1 = .ok (.istore_n 2, 1) := by decide +kernel
theorem dX9_now_2 : decode cX9_now 2 = .ok (.iconst 1, 1) := by decide +kernel
theorem dX9_now_3 : decode cX9_now 3 = .ok (.aload_n 0, 1) := by decide +kernel
theorem dX9_now_4 : decode cX9_now 4 = .ok (.getfield 16, 3) := by decide +kernel
theorem dX9_now_7 : decode cX9_now 7 = .ok (.iconst 0, 1) := by decide +kernel
theorem dX9_now_8 : decode cX9_now 8 = .ok (.iaload, 1) := by decide +kernel
theorem dX9_now_9 : decode cX9_now 9 = .ok (.ishl, 1) := by decide +kernel
theorem dX9_now_10 : decode cX9_now 10 = .ok (.iconst 1, 1) := by decide +kernel
theorem dX9_now_11 : decode cX9_now 11 = .ok (.isub, 1) := by decide +kernel
theorem dX9_now_12 : decode cX9_now 12 = .ok (.istore_n 3, 1) := by decide +kernel
theorem dX9_now_13 : decode cX9_now 13 = .ok (.iconst 0, 1) := by decide +kernel
theorem dX9_now_14 : decode cX9_now 14 = .ok (.istore 4, 2) := by decide +kernel
theorem dX9_now_16 : decode cX9_now 16 = .ok (.iconst 0, 1) := by decide +kernel
theorem dX9_now_17 : decode cX9_now 17 = .ok (.istore 5, 2) := by decide +kernel
theorem dX9_now_19 : decode cX9_now 19 = .ok (.iload 5, 2) := by decide +kernel
theorem dX9_now_21 : decode cX9_now 21 = .ok (.aload_n 0, 1) := by decide +kernel
theorem dX9_now_22 : decode cX9_now 22 = .ok (.getfield 16, 3) := by decide +kernel
theorem dX9_now_25 : decode cX9_now 25 = .ok (.iconst 1, 1) := by decide +kernel
theorem dX9_now_26 : decode cX9_now 26 = .ok (.iaload, 1) := by decide +kernel
theorem dX9_now_27 : decode cX9_now 27 = .ok (.if_icmp .ge 86, 3) := by decide +kernel
theorem dX9_now_30 : decode cX9_now 30 = .ok (.aload_n 0, 1) := by decide +kernel
theorem dX9_now_31 : decode cX9_now 31 = .ok (.iload 5, 2) := by decide +kernel
theorem dX9_now_33 : decode cX9_now 33 = .ok (.invokevirtual 122, 3) := by decide +kernel
theorem dX9_now_36 : decode cX9_now 36 = .ok (.istore 6, 2) := by decide +kernel
theorem dX9_now_38 : decode cX9_now 38 = .ok (.iload_n 2, 1) := by decide +kernel
theorem dX9_now_39 : decode cX9_now 39 = .ok (.iload 6, 2) := by decide +kernel
theorem dX9_now_41 : decode cX9_now 41 = .ok (.bipush (-9), 2) := by decide +kernel
theorem dX9_now_43 : decode cX9_now 43 = .ok (.if_icmp .ne 7, 3) := by decide +kernel
theorem dX9_now_46 : decode cX9_now 46 = .ok (.iconst 0, 1) := by decide +kernel
theorem dX9_now_47 : decode cX9_now 47 = .ok (.goto 7, 3) := by decide +kernel
theorem dX9_now_50 : decode cX9_now 50 = .ok (.iconst 1, 1) := by decide +kernel
theorem dX9_now_51 : decode cX9_now 51 = .ok (.iload 5, 2) := by decide +kernel
theorem dX9_now_53 : decode cX9_now 53 = .ok (.ishl, 1) := by decide +kernel
theorem dX9_now_54 : decode cX9_now 54 = .ok (.ior, 1) := by decide +kernel
theorem dX9_now_55 : decode cX9_now 55 = .ok (.istore_n 2, 1) := by decide +kernel
theorem dX9_now_56 : decode cX9_now 56 = .ok (.iload_n 3, 1) := by decide +kernel
theorem dX9_now_57 : decode cX9_now 57 = .ok (.iload 6, 2) := by decide +kernel
theorem dX9_now_59 : decode cX9_now 59 = .ok (.bipush (-9), 2) := by decide +kernel
theorem dX9_now_61 : decode cX9_now 61 = .ok (.if_icmp .ne 7, 3) := by decide +kernel
theorem dX9_now_64 : decode cX9_now 64 = .ok (.iconst (-1), 1) := by decide +kernel
theorem dX9_now_65 : decode cX9_now 65 = .ok (.goto 9, 3) := by decide +kernel
theorem dX9_now_68 : decode cX9_now 68 = .ok (.iconst 1, 1) := by decide +kernel
theorem dX9_now_69 : decode cX9_now 69 = .ok (.iload 6, 2) := by decide +kernel
theorem dX9_now_71 : decode cX9_now 71 = .ok (.ishl, 1) := by decide +kernel
theorem dX9_now_72 : decode cX9_now 72 = .ok (.iconst (-1), 1) := by decide +kernel
theorem dX9_now_73 : decode cX9_now 73 = .ok (.ixor, 1) := by decide +kernel
theorem dX9_now_74 : decode cX9_now 74 = .ok (.iand, 1) := by decide +kernel
theorem dX9_now_75 : decode cX9_now 75 = .ok (.istore_n 3, 1) := by decide +kernel
theorem dX9_now_76 : decode cX9_now 76 = .ok (.iload 4, 2) := by decide +kernel
theorem dX9_now_78 : decode cX9_now 78 = .ok (.iload 6, 2) := by decide +kernel
theorem dX9_now_80 : decode cX9_now 80 = .ok (.bipush (-9), 2) := by decide +kernel
theorem dX9_now_82 : decode cX9_now 82 = .ok (.if_icmp .eq 21, 3) := by decide +kernel
theorem dX9_now_85 : decode cX9_now 85 = .ok (.aload_n 0, 1) := by decide +kernel
theorem dX9_now_86 : decode cX9_now 86 = .ok (.iload 5, 2) := by decide +kernel
theorem dX9_now_88 : decode cX9_now 88 = .ok (.iload 6, 2) := by decide +kernel
theorem dX9_now_90 : decode cX9_now 90 = .ok (.invokevirtual 130, 3) := by decide +kernel
theorem dX9_now_93 : decode cX9_now 93 = .ok (.ifCond .ge 10, 3) := by decide +kernel
theorem dX9_now_96 : decode cX9_now 96 = .ok (.iconst 1, 1) := by decide +kernel
theorem dX9_now_97 : decode cX9_now 97 = .ok (.iload 5, 2) := by decide +kernel
theorem dX9_now_99 : decode cX9_now 99 = .ok (.ishl, 1) := by decide +kernel
theorem dX9_now_100 : decode cX9_now 100 = .ok (.goto 4, 3) := by decide +kernel
theorem dX9_now_103 : decode cX9_now 103 = .ok (.iconst 0, 1) := by decide +kernel
theorem dX9_now_104 : decode cX9_now 104 = .ok (.ior, 1) := by decide +kernel
theorem dX9_now_105 : decode cX9_now 105 = .ok (.istore 4, 2) := by decide +kernel
theorem dX9_now_107 : decode cX9_now 107 = .ok (.iinc 5 1, 3) := by decide +kernel
theorem dX9_now_110 : decode cX9_now 110 = .ok (.goto (-91), 3) := by decide +kernel
theorem dX9_now_113 : decode cX9_now 113 = .ok (.iload_n 1, 1) := by decide +kernel
theorem dX9_now_114 : decode cX9_now 114 = .ok (.tableswitch 53 0 4 #[34, 41, 46, 48, 50], 34) := by decide +kernel
theorem dX9_now_148 : decode cX9_now 148 = .ok (.aload_n 0, 1) := by decide +kernel
theorem dX9_now_149 : decode cX9_now 149 = .ok (.getfield 19, 3) := by decide +kernel
theorem dX9_now_152 : decode cX9_now 152 = .ok (.iconst 0, 1) := by decide +kernel
theorem dX9_now_153 : decode cX9_now 153 = .ok (.iaload, 1) := by decide +kernel
theorem dX9_now_154 : decode cX9_now 154 = .ok (.ireturn, 1) := by decide +kernel
theorem dX9_now_155 : decode cX9_now 155 = .ok (.aload_n 0, 1) := by decide +kernel
theorem dX9_now_156 : decode cX9_now 156 = .ok (.invokevirtual 158, 3) := by decide +kernel
theorem dX9_now_159 : decode cX9_now 159 = .ok (.ireturn, 1) := by decide +kernel
theorem dX9_now_160 : decode cX9_now 160 = .ok (.iload_n 2, 1) := by decide +kernel
theorem dX9_now_161 : decode cX9_now 161 = .ok (.ireturn, 1) := by decide +kernel
theorem dX9_now_162 : decode cX9_now 162 = .ok (.iload_n 3, 1) := by decide +kernel
theorem dX9_now_163 : decode cX9_now 163 = .ok (.ireturn, 1) := by decide +kernel
theorem dX9_now_164 : decode cX9_now 164 = .ok (.iload 4, 2) := by decide +kernel
theorem dX9_now_166 : decode cX9_now 166 = .ok (.ireturn, 1) := by decide +kernel
theorem dX9_now_167 : decode cX9_now 167 = .ok (.iconst (-1), 1) := by decide +kernel
theorem dX9_now_168 : decode cX9_now 168 = .ok (.ireturn, 1) := by decide +kernel
theorem dX9_power_0 : decode cX9_power 0 = .ok (.iconst 1, 1) := by decide +kernel
theorem dX9_power_1 : decode cX9_power 1 = .ok (.istore_n 2, 1) := by decide +kernel
theorem dX9_power_2 : decode cX9_power 2 = .ok (.iconst 0, 1) := by decide +kernel
theorem dX9_power_3 : decode cX9_power 3 = .ok (.istore_n 3, 1) := by decide +kernel
theorem dX9_power_4 : decode cX9_power 4 = .ok (.iload_n 3, 1) := by decide +kernel
theorem dX9_power_5 : decode cX9_power 5 = .ok (.iload_n 1, 1) := by decide +kernel
theorem dX9_power_6 : decode cX9_power 6 = .ok (.if_icmp .ge 13, 3) := by decide +kernel
theorem dX9_power_9 : decode cX9_power 9 = .ok (.iload_n 2, 1) := by decide +kernel
theorem dX9_power_10 : decode cX9_power 10 = .ok (.iload_n 0, 1) := by decide +kernel
theorem dX9_power_11 : decode cX9_power 11 = .ok (.imul, 1) := by decide +kernel
theorem dX9_power_12 : decode cX9_power 12 = .ok (.istore_n 2, 1) := by decide +kernel
theorem dX9_power_13 : decode cX9_power 13 = .ok (.iinc 3 1, 3) := by decide +kernel
theorem dX9_power_16 : decode cX9_power 16 = .ok (.goto (-12), 3) := by decide +kernel
theorem dX9_power_19 : decode cX9_power 19 = .ok (.iload_n 2, 1) := by decide +kernel
theorem dX9_power_20 : decode cX9_power 20 = .ok (.ireturn, 1) := by decide +kernel
set_option maxRecDepth 20000 in
theorem ggX9_finds_X9_power : GoodIn wsX9_finds wsX9_power := goodIn_r _ [8] (by decide +kernel) (by decide +kernel)
set_option maxRecDepth 20000 in
theorem gX9_finds_X9_power : GoodIn wsX9_finds (va_wsS RX9 164 yX9_power wsX9_power) := goodIn_app (goodIn_of _ (by decide +kernel)) ggX9_finds_X9_power
set_option maxRecDepth 20000 in
theorem ggX9_finds_X9_more : GoodIn wsX9_finds wsX9_more := goodIn_r _ [12, 1, 13, 14, 15, 7, 16, 17, 18, 19, 20, 21, 22, 23, 24, 25, 26, 27, 28, 29, 30, 31, 32, 33, 34, 35, 36, 37, 38, 39, 40, 41, 42] (by decide +kernel) (by decide +kernel)
set_option maxRecDepth 20000 in
theorem gX9_finds_X9_more : GoodIn wsX9_finds (wsV RX9 130 RX9 yX9_more wsX9_more) := goodIn_app (goodIn_of _ (by decide +kernel)) ggX9_finds_X9_more
theorem dX9_finds_0 : decode cX9_finds 0 = .ok (.aload_n 0, 1) := by decide +kernel
theorem dX9_finds_1 : decode cX9_finds 1 = .ok (.getfield 16, 3) := by decide +kernel
theorem dX9_finds_4 : decode cX9_finds 4 = .ok (.iconst 0, 1) := by decide +kernel
theorem dX9_finds_5 : decode cX9_finds 5 = .ok (.iaload, 1) := by decide +kernel
theorem dX9_finds_6 : decode cX9_finds 6 = .ok (.iconst 1, 1) := by decide +kernel
theorem dX9_finds_7 : decode cX9_finds 7 = .ok (.iadd, 1) := by decide +kernel
theorem dX9_finds_8 : decode cX9_finds 8 = .ok (.istore_n 1, 1) := by decide +kernel
theorem dX9_finds_9 : decode cX9_finds 9 = .ok (.iload_n 1, 1) := by decide +kernel
theorem dX9_finds_10 : decode cX9_finds 10 = .ok (.aload_n 0, 1) := by decide +kernel
theorem dX9_finds_11 : decode cX9_finds 11 = .ok (.getfield 16, 3) := by decide +kernel
theorem dX9_finds_14 : decode cX9_finds 14 = .ok (.iconst 1, 1) := by decide +kernel
theorem dX9_finds_15 : decode cX9_finds 15 = .ok (.iaload, 1) := by decide +kernel
theorem dX9_finds_16 : decode cX9_finds 16 = .ok (.invokestatic 164, 3) := by decide +kernel
theorem dX9_finds_19 : decode cX9_finds 19 = .ok (.istore_n 2, 1) := by decide +kernel
theorem dX9_finds_20 : decode cX9_finds 20 = .ok (.aload_n 0, 1) := by decide +kernel
theorem dX9_finds_21 : decode cX9_finds 21 = .ok (.iconst (-1), 1) := by decide +kernel
theorem dX9_finds_22 : decode cX9_finds 22 = .ok (.putfield 167, 3) := by decide +kernel
theorem dX9_finds_25 : decode cX9_finds 25 = .ok (.aload_n 0, 1) := by decide +kernel
theorem dX9_finds_26 : decode cX9_finds 26 = .ok (.iconst 0, 1) := by decide +kernel
theorem dX9_finds_27 : decode cX9_finds 27 = .ok (.putfield 170, 3) := by decide +kernel
theorem dX9_finds_30 : decode cX9_finds 30 = .ok (.iconst 0, 1) := by decide +kernel
theorem dX9_finds_31 : decode cX9_finds 31 = .ok (.istore_n 3, 1) := by decide +kernel
theorem dX9_finds_32 : decode cX9_finds 32 = .ok (.iload_n 3, 1) := by decide +kernel
theorem dX9_finds_33 : decode cX9_finds 33 = .ok (.iload_n 2, 1) := by decide +kernel
theorem dX9_finds_34 : decode cX9_finds 34 = .ok (.if_icmp .ge 230, 3) := by decide +kernel
theorem dX9_finds_37 : decode cX9_finds 37 = .ok (.iload_n 3, 1) := by decide +kernel
theorem dX9_finds_38 : decode cX9_finds 38 = .ok (.istore 4, 2) := by decide +kernel
theorem dX9_finds_40 : decode cX9_finds 40 = .ok (.iconst 0, 1) := by decide +kernel
theorem dX9_finds_41 : decode cX9_finds 41 = .ok (.istore 5, 2) := by decide +kernel
theorem dX9_finds_43 : decode cX9_finds 43 = .ok (.iconst 0, 1) := by decide +kernel
theorem dX9_finds_44 : decode cX9_finds 44 = .ok (.istore 6, 2) := by decide +kernel
theorem dX9_finds_46 : decode cX9_finds 46 = .ok (.iconst 0, 1) := by decide +kernel
theorem dX9_finds_47 : decode cX9_finds 47 = .ok (.istore 7, 2) := by decide +kernel
theorem dX9_finds_49 : decode cX9_finds 49 = .ok (.iconst 1, 1) := by decide +kernel
theorem dX9_finds_50 : decode cX9_finds 50 = .ok (.istore 8, 2) := by decide +kernel
theorem dX9_finds_52 : decode cX9_finds 52 = .ok (.aload_n 0, 1) := by decide +kernel
theorem dX9_finds_53 : decode cX9_finds 53 = .ok (.getfield 16, 3) := by decide +kernel
theorem dX9_finds_56 : decode cX9_finds 56 = .ok (.iconst 1, 1) := by decide +kernel
theorem dX9_finds_57 : decode cX9_finds 57 = .ok (.iaload, 1) := by decide +kernel
theorem dX9_finds_58 : decode cX9_finds 58 = .ok (.iconst 1, 1) := by decide +kernel
theorem dX9_finds_59 : decode cX9_finds 59 = .ok (.isub, 1) := by decide +kernel
theorem dX9_finds_60 : decode cX9_finds 60 = .ok (.istore 9, 2) := by decide +kernel
theorem dX9_finds_62 : decode cX9_finds 62 = .ok (.iload 9, 2) := by decide +kernel
theorem dX9_finds_64 : decode cX9_finds 64 = .ok (.ifCond .lt 91, 3) := by decide +kernel
theorem dX9_finds_67 : decode cX9_finds 67 = .ok (.iload 8, 2) := by decide +kernel
theorem dX9_finds_69 : decode cX9_finds 69 = .ok (.ifCond .eq 86, 3) := by decide +kernel
theorem dX9_finds_72 : decode cX9_finds 72 = .ok (.iload 4, 2) := by decide +kernel
theorem dX9_finds_74 : decode cX9_finds 74 = .ok (.iload_n 1, 1) := by decide +kernel
theorem dX9_finds_75 : decode cX9_finds 75 = .ok (.irem, 1) := by decide +kernel
theorem dX9_finds_76 : decode cX9_finds 76 = .ok (.istore 10, 2) := by decide +kernel
theorem dX9_finds_78 : decode cX9_finds 78 = .ok (.iload 4, 2) := by decide +kernel
theorem dX9_finds_80 : decode cX9_finds 80 = .ok (.iload_n 1, 1) := by decide +kernel
theorem dX9_finds_81 : decode cX9_finds 81 = .ok (.idiv, 1) := by decide +kernel
theorem dX9_finds_82 : decode cX9_finds 82 = .ok (.istore 4, 2) := by decide +kernel
theorem dX9_finds_84 : decode cX9_finds 84 = .ok (.iload 10, 2) := by decide +kernel
theorem dX9_finds_86 : decode cX9_finds 86 = .ok (.aload_n 0, 1) := by decide +kernel
theorem dX9_finds_87 : decode cX9_finds 87 = .ok (.getfield 16, 3) := by decide +kernel
theorem dX9_finds_90 : decode cX9_finds 90 = .ok (.iconst 0, 1) := by decide +kernel
theorem dX9_finds_91 : decode cX9_finds 91 = .ok (.iaload, 1) := by decide +kernel
theorem dX9_finds_92 : decode cX9_finds 92 = .ok (.if_icmp .ge 57, 3) := by decide +kernel
theorem dX9_finds_95 : decode cX9_finds 95 = .ok (.iload 7, 2) := by decide +kernel
theorem dX9_finds_97 : decode cX9_finds 97 = .ok (.iload 10, 2) := by decide +kernel
theorem dX9_finds_99 : decode cX9_finds 99 = .ok (.ishr, 1) := by decide +kernel
theorem dX9_finds_100 : decode cX9_finds 100 = .ok (.iconst 1, 1) := by decide +kernel
theorem dX9_finds_101 : decode cX9_finds 101 = .ok (.iand, 1) := by decide +kernel
theorem dX9_finds_102 : decode cX9_finds 102 = .ok (.ifCond .ne 18, 3) := by decide +kernel
theorem dX9_finds_105 : decode cX9_finds 105 = .ok (.aload_n 0, 1) := by decide +kernel
theorem dX9_finds_106 : decode cX9_finds 106 = .ok (.iload 9, 2) := by decide +kernel
theorem dX9_finds_108 : decode cX9_finds 108 = .ok (.iload 10, 2) := by decide +kernel
theorem dX9_finds_110 : decode cX9_finds 110 = .ok (.invokevirtual 130, 3) := by decide +kernel
theorem dX9_finds_113 : decode cX9_finds 113 = .ok (.ifCond .lt 7, 3) := by decide +kernel
theorem dX9_finds_116 : decode cX9_finds 116 = .ok (.iconst 1, 1) := by decide +kernel
theorem dX9_finds_117 : decode cX9_finds 117 = .ok (.goto 4, 3) := by decide +kernel
theorem dX9_finds_120 : decode cX9_finds 120 = .ok (.iconst 0, 1) := by decide +kernel
theorem dX9_finds_121 : decode cX9_finds 121 = .ok (.istore 8, 2) := by decide +kernel
theorem dX9_finds_123 : decode cX9_finds 123 = .ok (.iload 7, 2) := by decide +kernel
theorem dX9_finds_125 : decode cX9_finds 125 = .ok (.iconst 1, 1) := by decide +kernel
theorem dX9_finds_126 : decode cX9_finds 126 = .ok (.iload 10, 2) := by decide +kernel
theorem dX9_finds_128 : decode cX9_finds 128 = .ok (.ishl, 1) := by decide +kernel
theorem dX9_finds_129 : decode cX9_finds 129 = .ok (.ior, 1) := by decide +kernel
theorem dX9_finds_130 : decode cX9_finds 130 = .ok (.istore 7, 2) := by decide +kernel
theorem dX9_finds_132 : decode cX9_finds 132 = .ok (.iinc 5 1, 3) := by decide +kernel
theorem dX9_finds_135 : decode cX9_finds 135 = .ok (.iload 6, 2) := by decide +kernel
theorem dX9_finds_137 : decode cX9_finds 137 = .ok (.aload_n 0, 1) := by decide +kernel
theorem dX9_finds_138 : decode cX9_finds 138 = .ok (.getfield 16, 3) := by decide +kernel
theorem dX9_finds_141 : decode cX9_finds 141 = .ok (.iconst 3, 1) := by decide +kernel
theorem dX9_finds_142 : decode cX9_finds 142 = .ok (.iload 10, 2) := by decide +kernel
theorem dX9_finds_144 : decode cX9_finds 144 = .ok (.iadd, 1) := by decide +kernel
theorem dX9_finds_145 : decode cX9_finds 145 = .ok (.iaload, 1) := by decide +kernel
theorem dX9_finds_146 : decode cX9_finds 146 = .ok (.iadd, 1) := by decide +kernel
theorem dX9_finds_147 : decode cX9_finds 147 = .ok (.istore 6, 2) := by decide +kernel
theorem dX9_finds_149 : decode cX9_finds 149 = .ok (.iinc 9 (-1), 3) := by decide +kernel
theorem dX9_finds_152 : decode cX9_finds 152 = .ok (.goto (-90), 3) := by decide +kernel
theorem dX9_finds_155 : decode cX9_finds 155 = .ok (.iload 8, 2) := by decide +kernel
theorem dX9_finds_157 : decode cX9_finds 157 = .ok (.ifCond .eq 101, 3) := by decide +kernel
theorem dX9_finds_160 : decode cX9_finds 160 = .ok (.iload 5, 2) := by decide +kernel
theorem dX9_finds_162 : decode cX9_finds 162 = .ok (.aload_n 0, 1) := by decide +kernel
theorem dX9_finds_163 : decode cX9_finds 163 = .ok (.getfield 167, 3) := by decide +kernel
theorem dX9_finds_166 : decode cX9_finds 166 = .ok (.if_icmp .gt 21, 3) := by decide +kernel
theorem dX9_finds_169 : decode cX9_finds 169 = .ok (.iload 5, 2) := by decide +kernel
theorem dX9_finds_171 : decode cX9_finds 171 = .ok (.aload_n 0, 1) := by decide +kernel
theorem dX9_finds_172 : decode cX9_finds 172 = .ok (.getfield 167, 3) := by decide +kernel
theorem dX9_finds_175 : decode cX9_finds 175 = .ok (.if_icmp .ne 83, 3) := by decide +kernel
theorem dX9_finds_178 : decode cX9_finds 178 = .ok (.iload 6, 2) := by decide +kernel
theorem dX9_finds_180 : decode cX9_finds 180 = .ok (.aload_n 0, 1) := by decide +kernel
theorem dX9_finds_181 : decode cX9_finds 181 = .ok (.getfield 170, 3) := by decide +kernel
theorem dX9_finds_184 : decode cX9_finds 184 = .ok (.if_icmp .le 74, 3) := by decide +kernel
theorem dX9_finds_187 : decode cX9_finds 187 = .ok (.aload_n 0, 1) := by decide +kernel
theorem dX9_finds_188 : decode cX9_finds 188 = .ok (.iload 5, 2) := by decide +kernel
theorem dX9_finds_190 : decode cX9_finds 190 = .ok (.putfield 167, 3) := by decide +kernel
theorem dX9_finds_193 : decode cX9_finds 193 = .ok (.aload_n 0, 1) := by decide +kernel
theorem dX9_finds_194 : decode cX9_finds 194 = .ok (.iload 6, 2) := by decide +kernel
theorem dX9_finds_196 : decode cX9_finds 196 = .ok (.putfield 170, 3) := by decide +kernel
theorem dX9_finds_199 : decode cX9_finds 199 = .ok (.iload_n 3, 1) := by decide +kernel
theorem dX9_finds_200 : decode cX9_finds 200 = .ok (.istore 4, 2) := by decide +kernel
theorem dX9_finds_202 : decode cX9_finds 202 = .ok (.aload_n 0, 1) := by decide +kernel
theorem dX9_finds_203 : decode cX9_finds 203 = .ok (.getfield 16, 3) := by decide +kernel
theorem dX9_finds_206 : decode cX9_finds 206 = .ok (.iconst 1, 1) := by decide +kernel
theorem dX9_finds_207 : decode cX9_finds 207 = .ok (.iaload, 1) := by decide +kernel
theorem dX9_finds_208 : decode cX9_finds 208 = .ok (.iconst 1, 1) := by decide +kernel
theorem dX9_finds_209 : decode cX9_finds 209 = .ok (.isub, 1) := by decide +kernel
theorem dX9_finds_210 : decode cX9_finds 210 = .ok (.istore 9, 2) := by decide +kernel
theorem dX9_finds_212 : decode cX9_finds 212 = .ok (.iload 9, 2) := by decide +kernel
theorem dX9_finds_214 : decode cX9_finds 214 = .ok (.ifCond .lt 44, 3) := by decide +kernel
theorem dX9_finds_217 : decode cX9_finds 217 = .ok (.aload_n 0, 1) := by decide +kernel
theorem dX9_finds_218 : decode cX9_finds 218 = .ok (.getfield 25, 3) := by decide +kernel
theorem dX9_finds_221 : decode cX9_finds 221 = .ok (.iload 9, 2) := by decide +kernel
theorem dX9_finds_223 : decode cX9_finds 223 = .ok (.iload 4, 2) := by decide +kernel
theorem dX9_finds_225 : decode cX9_finds 225 = .ok (.iload_n 1, 1) := by decide +kernel
theorem dX9_finds_226 : decode cX9_finds 226 = .ok (.irem, 1) := by decide +kernel
theorem dX9_finds_227 : decode cX9_finds 227 = .ok (.aload_n 0, 1) := by decide +kernel
theorem dX9_finds_228 : decode cX9_finds 228 = .ok (.getfield 16, 3) := by decide +kernel
theorem dX9_finds_231 : decode cX9_finds 231 = .ok (.iconst 0, 1) := by decide +kernel
theorem dX9_finds_232 : decode cX9_finds 232 = .ok (.iaload, 1) := by decide +kernel
theorem dX9_finds_233 : decode cX9_finds 233 = .ok (.if_icmp .ne 8, 3) := by decide +kernel
theorem dX9_finds_236 : decode cX9_finds 236 = .ok (.bipush (-9), 2) := by decide +kernel
theorem dX9_finds_238 : decode cX9_finds 238 = .ok (.goto 7, 3) := by decide +kernel
theorem dX9_finds_241 : decode cX9_finds 241 = .ok (.iload 4, 2) := by decide +kernel
theorem dX9_finds_243 : decode cX9_finds 243 = .ok (.iload_n 1, 1) := by decide +kernel
theorem dX9_finds_244 : decode cX9_finds 244 = .ok (.irem, 1) := by decide +kernel
theorem dX9_finds_245 : decode cX9_finds 245 = .ok (.iastore, 1) := by decide +kernel
theorem dX9_finds_246 : decode cX9_finds 246 = .ok (.iload 4, 2) := by decide +kernel
theorem dX9_finds_248 : decode cX9_finds 248 = .ok (.iload_n 1, 1) := by decide +kernel
theorem dX9_finds_249 : decode cX9_finds 249 = .ok (.idiv, 1) := by decide +kernel
theorem dX9_finds_250 : decode cX9_finds 250 = .ok (.istore 4, 2) := by decide +kernel
theorem dX9_finds_252 : decode cX9_finds 252 = .ok (.iinc 9 (-1), 3) := by decide +kernel
theorem dX9_finds_255 : decode cX9_finds 255 = .ok (.goto (-43), 3) := by decide +kernel
theorem dX9_finds_258 : decode cX9_finds 258 = .ok (.iinc 3 1, 3) := by decide +kernel
theorem dX9_finds_261 : decode cX9_finds 261 = .ok (.goto (-229), 3) := by decide +kernel
theorem dX9_finds_264 : decode cX9_finds 264 = .ok (.return_, 1) := by decide +kernel
set_option maxRecDepth 20000 in
theorem ggX9_housed_X9_in : GoodIn wsX9_housed wsX9_in := goodIn_r _ [9] (by decide +kernel) (by decide +kernel)
set_option maxRecDepth 20000 in
theorem gX9_housed_X9_in : GoodIn wsX9_housed (va_wsS RX9 48 yX9_in wsX9_in) := goodIn_app (goodIn_of _ (by decide +kernel)) ggX9_housed_X9_in
set_option maxRecDepth 20000 in
theorem ggX9_housed_X9_finds : GoodIn wsX9_housed wsX9_finds := goodIn_r _ [13, 2, 3, 4, 5, 14, 15, 8, 16, 17, 18, 19, 20, 21, 22, 23, 24, 25, 26, 27, 28, 29, 30, 31, 32, 33, 34, 35, 36, 37, 38, 39, 40, 41, 42, 43, 44, 45, 46, 47, 48, 49, 50] (by decide +kernel) (by decide +kernel)
set_option maxRecDepth 20000 in
theorem gX9_housed_X9_finds : GoodIn wsX9_housed (wsV RX9 175 RX9 yX9_finds wsX9_finds) := goodIn_app (goodIn_of _ (by decide +kernel)) ggX9_housed_X9_finds
theorem dX9_housed_0 : decode cX9_housed 0 = .ok (.iload_n 1, 1) := by decide +kernel
theorem dX9_housed_1 : decode cX9_housed 1 = .ok (.i2l, 1) := by decide +kernel
theorem dX9_housed_2 : decode cX9_housed 2 = .ok (.ldc2_w 173, 3) := by decide +kernel
theorem dX9_housed_5 : decode cX9_housed 5 = .ok (.aload_n 0, 1) := by decide +kernel
theorem dX9_housed_6 : decode cX9_housed 6 = .ok (.getfield 16, 3) := by decide +kernel
theorem dX9_housed_9 : decode cX9_housed 9 = .ok (.iconst 1, 1) := by decide +kernel
theorem dX9_housed_10 : decode cX9_housed 10 = .ok (.iaload, 1) := by decide +kernel
theorem dX9_housed_11 : decode cX9_housed 11 = .ok (.iconst 1, 1) := by decide +kernel
theorem dX9_housed_12 : decode cX9_housed 12 = .ok (.isub, 1) := by decide +kernel
theorem dX9_housed_13 : decode cX9_housed 13 = .ok (.i2l, 1) := by decide +kernel
theorem dX9_housed_14 : decode cX9_housed 14 = .ok (.invokestatic 48, 3) := by decide +kernel
theorem dX9_housed_17 : decode cX9_housed 17 = .ok (.ifCond .ne 5, 3) := by decide +kernel
theorem dX9_housed_20 : decode cX9_housed 20 = .ok (.iconst (-1), 1) := by decide +kernel
theorem dX9_housed_21 : decode cX9_housed 21 = .ok (.ireturn, 1) := by decide +kernel
theorem dX9_housed_22 : decode cX9_housed 22 = .ok (.aload_n 0, 1) := by decide +kernel
theorem dX9_housed_23 : decode cX9_housed 23 = .ok (.invokevirtual 175, 3) := by decide +kernel
theorem dX9_housed_26 : decode cX9_housed 26 = .ok (.iload_n 1, 1) := by decide +kernel
theorem dX9_housed_27 : decode cX9_housed 27 = .ok (.iconst (-1), 1) := by decide +kernel
theorem dX9_housed_28 : decode cX9_housed 28 = .ok (.if_icmp .ne 10, 3) := by decide +kernel
theorem dX9_housed_31 : decode cX9_housed 31 = .ok (.aload_n 0, 1) := by decide +kernel
theorem dX9_housed_32 : decode cX9_housed 32 = .ok (.getfield 167, 3) := by decide +kernel
theorem dX9_housed_35 : decode cX9_housed 35 = .ok (.goto 22, 3) := by decide +kernel
theorem dX9_housed_38 : decode cX9_housed 38 = .ok (.iload_n 1, 1) := by decide +kernel
theorem dX9_housed_39 : decode cX9_housed 39 = .ok (.bipush (-2), 2) := by decide +kernel
theorem dX9_housed_41 : decode cX9_housed 41 = .ok (.if_icmp .ne 10, 3) := by decide +kernel
theorem dX9_housed_44 : decode cX9_housed 44 = .ok (.aload_n 0, 1) := by decide +kernel
theorem dX9_housed_45 : decode cX9_housed 45 = .ok (.getfield 170, 3) := by decide +kernel
theorem dX9_housed_48 : decode cX9_housed 48 = .ok (.goto 9, 3) := by decide +kernel
theorem dX9_housed_51 : decode cX9_housed 51 = .ok (.aload_n 0, 1) := by decide +kernel
theorem dX9_housed_52 : decode cX9_housed 52 = .ok (.getfield 25, 3) := by decide +kernel
theorem dX9_housed_55 : decode cX9_housed 55 = .ok (.iload_n 1, 1) := by decide +kernel
theorem dX9_housed_56 : decode cX9_housed 56 = .ok (.iaload, 1) := by decide +kernel
theorem dX9_housed_57 : decode cX9_housed 57 = .ok (.ireturn, 1) := by decide +kernel
theorem dX9_many_0 : decode cX9_many 0 = .ok (.iconst 0, 1) := by decide +kernel
theorem dX9_many_1 : decode cX9_many 1 = .ok (.istore_n 1, 1) := by decide +kernel
theorem dX9_many_2 : decode cX9_many 2 = .ok (.iload_n 0, 1) := by decide +kernel
theorem dX9_many_3 : decode cX9_many 3 = .ok (.istore_n 2, 1) := by decide +kernel
theorem dX9_many_4 : decode cX9_many 4 = .ok (.iload_n 2, 1) := by decide +kernel
theorem dX9_many_5 : decode cX9_many 5 = .ok (.ifCond .eq 15, 3) := by decide +kernel
theorem dX9_many_8 : decode cX9_many 8 = .ok (.iinc 1 1, 3) := by decide +kernel
theorem dX9_many_11 : decode cX9_many 11 = .ok (.iload_n 2, 1) := by decide +kernel
theorem dX9_many_12 : decode cX9_many 12 = .ok (.iload_n 2, 1) := by decide +kernel
theorem dX9_many_13 : decode cX9_many 13 = .ok (.iconst 1, 1) := by decide +kernel
theorem dX9_many_14 : decode cX9_many 14 = .ok (.isub, 1) := by decide +kernel
theorem dX9_many_15 : decode cX9_many 15 = .ok (.iand, 1) := by decide +kernel
theorem dX9_many_16 : decode cX9_many 16 = .ok (.istore_n 2, 1) := by decide +kernel
theorem dX9_many_17 : decode cX9_many 17 = .ok (.goto (-13), 3) := by decide +kernel
theorem dX9_many_20 : decode cX9_many 20 = .ok (.iload_n 1, 1) := by decide +kernel
theorem dX9_many_21 : decode cX9_many 21 = .ok (.ireturn, 1) := by decide +kernel
set_option maxRecDepth 20000 in
theorem ggX9_crowd_X9_more : GoodIn wsX9_crowd wsX9_more := goodIn_r _ [6, 1, 7, 8, 9, 5, 10, 11, 12, 13, 14, 18, 19, 20, 21, 22, 23, 24, 25, 26, 27, 28, 29, 30, 31, 32, 33, 34, 35, 36, 37, 38, 39] (by decide +kernel) (by decide +kernel)
set_option maxRecDepth 20000 in
theorem gX9_crowd_X9_more : GoodIn wsX9_crowd (wsV RX9 130 RX9 yX9_more wsX9_more) := goodIn_app (goodIn_of _ (by decide +kernel)) ggX9_crowd_X9_more
set_option maxRecDepth 20000 in
theorem ggX9_crowd_X9_many : GoodIn wsX9_crowd wsX9_many := goodIn_r _ [17] (by decide +kernel) (by decide +kernel)
set_option maxRecDepth 20000 in
theorem gX9_crowd_X9_many : GoodIn wsX9_crowd (va_wsS RX9 178 yX9_many wsX9_many) := goodIn_app (goodIn_of _ (by decide +kernel)) ggX9_crowd_X9_many
theorem dX9_crowd_0 : decode cX9_crowd 0 = .ok (.bipush (-9), 2) := by decide +kernel
theorem dX9_crowd_2 : decode cX9_crowd 2 = .ok (.istore_n 1, 1) := by decide +kernel
theorem dX9_crowd_3 : decode cX9_crowd 3 = .ok (.iconst 1, 1) := by decide +kernel
theorem dX9_crowd_4 : decode cX9_crowd 4 = .ok (.istore_n 2, 1) := by decide +kernel
theorem dX9_crowd_5 : decode cX9_crowd 5 = .ok (.iload_n 2, 1) := by decide +kernel
theorem dX9_crowd_6 : decode cX9_crowd 6 = .ok (.iconst 1, 1) := by decide +kernel
theorem dX9_crowd_7 : decode cX9_crowd 7 = .ok (.aload_n 0, 1) := by decide +kernel
theorem dX9_crowd_8 : decode cX9_crowd 8 = .ok (.getfield 16, 3) := by decide +kernel
theorem dX9_crowd_11 : decode cX9_crowd 11 = .ok (.iconst 1, 1) := by decide +kernel
theorem dX9_crowd_12 : decode cX9_crowd 12 = .ok (.iaload, 1) := by decide +kernel
theorem dX9_crowd_13 : decode cX9_crowd 13 = .ok (.ishl, 1) := by decide +kernel
theorem dX9_crowd_14 : decode cX9_crowd 14 = .ok (.if_icmp .ge 143, 3) := by decide +kernel
theorem dX9_crowd_17 : decode cX9_crowd 17 = .ok (.iconst 0, 1) := by decide +kernel
theorem dX9_crowd_18 : decode cX9_crowd 18 = .ok (.istore_n 3, 1) := by decide +kernel
theorem dX9_crowd_19 : decode cX9_crowd 19 = .ok (.iconst 0, 1) := by decide +kernel
theorem dX9_crowd_20 : decode cX9_crowd 20 = .ok (.istore 4, 2) := by decide +kernel
theorem dX9_crowd_22 : decode cX9_crowd 22 = .ok (.iload 4, 2) := by decide +kernel
theorem dX9_crowd_24 : decode cX9_crowd 24 = .ok (.aload_n 0, 1) := by decide +kernel
theorem dX9_crowd_25 : decode cX9_crowd 25 = .ok (.getfield 16, 3) := by decide +kernel
theorem dX9_crowd_28 : decode cX9_crowd 28 = .ok (.iconst 0, 1) := by decide +kernel
theorem dX9_crowd_29 : decode cX9_crowd 29 = .ok (.iaload, 1) := by decide +kernel
theorem dX9_crowd_30 : decode cX9_crowd 30 = .ok (.if_icmp .ge 78, 3) := by decide +kernel
theorem dX9_crowd_33 : decode cX9_crowd 33 = .ok (.iconst 0, 1) := by decide +kernel
theorem dX9_crowd_34 : decode cX9_crowd 34 = .ok (.istore 5, 2) := by decide +kernel
theorem dX9_crowd_36 : decode cX9_crowd 36 = .ok (.iconst 0, 1) := by decide +kernel
theorem dX9_crowd_37 : decode cX9_crowd 37 = .ok (.istore 6, 2) := by decide +kernel
theorem dX9_crowd_39 : decode cX9_crowd 39 = .ok (.iload 6, 2) := by decide +kernel
theorem dX9_crowd_41 : decode cX9_crowd 41 = .ok (.aload_n 0, 1) := by decide +kernel
theorem dX9_crowd_42 : decode cX9_crowd 42 = .ok (.getfield 16, 3) := by decide +kernel
theorem dX9_crowd_45 : decode cX9_crowd 45 = .ok (.iconst 1, 1) := by decide +kernel
theorem dX9_crowd_46 : decode cX9_crowd 46 = .ok (.iaload, 1) := by decide +kernel
theorem dX9_crowd_47 : decode cX9_crowd 47 = .ok (.if_icmp .ge 42, 3) := by decide +kernel
theorem dX9_crowd_50 : decode cX9_crowd 50 = .ok (.iload 5, 2) := by decide +kernel
theorem dX9_crowd_52 : decode cX9_crowd 52 = .ok (.ifCond .ne 24, 3) := by decide +kernel
theorem dX9_crowd_55 : decode cX9_crowd 55 = .ok (.iload_n 2, 1) := by decide +kernel
theorem dX9_crowd_56 : decode cX9_crowd 56 = .ok (.iload 6, 2) := by decide +kernel
theorem dX9_crowd_58 : decode cX9_crowd 58 = .ok (.ishr, 1) := by decide +kernel
theorem dX9_crowd_59 : decode cX9_crowd 59 = .ok (.iconst 1, 1) := by decide +kernel
theorem dX9_crowd_60 : decode cX9_crowd 60 = .ok (.iand, 1) := by decide +kernel
theorem dX9_crowd_61 : decode cX9_crowd 61 = .ok (.iconst 1, 1) := by decide +kernel
theorem dX9_crowd_62 : decode cX9_crowd 62 = .ok (.if_icmp .ne 18, 3) := by decide +kernel
theorem dX9_crowd_65 : decode cX9_crowd 65 = .ok (.aload_n 0, 1) := by decide +kernel
theorem dX9_crowd_66 : decode cX9_crowd 66 = .ok (.iload 6, 2) := by decide +kernel
theorem dX9_crowd_68 : decode cX9_crowd 68 = .ok (.iload 4, 2) := by decide +kernel
theorem dX9_crowd_70 : decode cX9_crowd 70 = .ok (.invokevirtual 130, 3) := by decide +kernel
theorem dX9_crowd_73 : decode cX9_crowd 73 = .ok (.ifCond .lt 7, 3) := by decide +kernel
theorem dX9_crowd_76 : decode cX9_crowd 76 = .ok (.iconst 1, 1) := by decide +kernel
theorem dX9_crowd_77 : decode cX9_crowd 77 = .ok (.goto 4, 3) := by decide +kernel
theorem dX9_crowd_80 : decode cX9_crowd 80 = .ok (.iconst 0, 1) := by decide +kernel
theorem dX9_crowd_81 : decode cX9_crowd 81 = .ok (.istore 5, 2) := by decide +kernel
theorem dX9_crowd_83 : decode cX9_crowd 83 = .ok (.iinc 6 1, 3) := by decide +kernel
theorem dX9_crowd_86 : decode cX9_crowd 86 = .ok (.goto (-47), 3) := by decide +kernel
theorem dX9_crowd_89 : decode cX9_crowd 89 = .ok (.iload_n 3, 1) := by decide +kernel
theorem dX9_crowd_90 : decode cX9_crowd 90 = .ok (.iload 5, 2) := by decide +kernel
theorem dX9_crowd_92 : decode cX9_crowd 92 = .ok (.ifCond .eq 7, 3) := by decide +kernel
theorem dX9_crowd_95 : decode cX9_crowd 95 = .ok (.iconst 1, 1) := by decide +kernel
theorem dX9_crowd_96 : decode cX9_crowd 96 = .ok (.goto 4, 3) := by decide +kernel
theorem dX9_crowd_99 : decode cX9_crowd 99 = .ok (.iconst 0, 1) := by decide +kernel
theorem dX9_crowd_100 : decode cX9_crowd 100 = .ok (.iadd, 1) := by decide +kernel
theorem dX9_crowd_101 : decode cX9_crowd 101 = .ok (.istore_n 3, 1) := by decide +kernel
theorem dX9_crowd_102 : decode cX9_crowd 102 = .ok (.iinc 4 1, 3) := by decide +kernel
theorem dX9_crowd_105 : decode cX9_crowd 105 = .ok (.goto (-83), 3) := by decide +kernel
theorem dX9_crowd_108 : decode cX9_crowd 108 = .ok (.iload_n 3, 1) := by decide +kernel
theorem dX9_crowd_109 : decode cX9_crowd 109 = .ok (.iload_n 2, 1) := by decide +kernel
theorem dX9_crowd_110 : decode cX9_crowd 110 = .ok (.invokestatic 178, 3) := by decide +kernel
theorem dX9_crowd_113 : decode cX9_crowd 113 = .ok (.if_icmp .ge 24, 3) := by decide +kernel
theorem dX9_crowd_116 : decode cX9_crowd 116 = .ok (.iload_n 1, 1) := by decide +kernel
theorem dX9_crowd_117 : decode cX9_crowd 117 = .ok (.bipush (-9), 2) := by decide +kernel
theorem dX9_crowd_119 : decode cX9_crowd 119 = .ok (.if_icmp .eq 14, 3) := by decide +kernel
theorem dX9_crowd_122 : decode cX9_crowd 122 = .ok (.iload_n 2, 1) := by decide +kernel
theorem dX9_crowd_123 : decode cX9_crowd 123 = .ok (.invokestatic 178, 3) := by decide +kernel
theorem dX9_crowd_126 : decode cX9_crowd 126 = .ok (.iload_n 1, 1) := by decide +kernel
theorem dX9_crowd_127 : decode cX9_crowd 127 = .ok (.invokestatic 178, 3) := by decide +kernel
theorem dX9_crowd_130 : decode cX9_crowd 130 = .ok (.if_icmp .ge 7, 3) := by decide +kernel
theorem dX9_crowd_133 : decode cX9_crowd 133 = .ok (.iconst 1, 1) := by decide +kernel
theorem dX9_crowd_134 : decode cX9_crowd 134 = .ok (.goto 4, 3) := by decide +kernel
theorem dX9_crowd_137 : decode cX9_crowd 137 = .ok (.iconst 0, 1) := by decide +kernel
theorem dX9_crowd_138 : decode cX9_crowd 138 = .ok (.istore 4, 2) := by decide +kernel
theorem dX9_crowd_140 : decode cX9_crowd 140 = .ok (.iload 4, 2) := by decide +kernel
theorem dX9_crowd_142 : decode cX9_crowd 142 = .ok (.ifCond .eq 7, 3) := by decide +kernel
theorem dX9_crowd_145 : decode cX9_crowd 145 = .ok (.iload_n 2, 1) := by decide +kernel
theorem dX9_crowd_146 : decode cX9_crowd 146 = .ok (.goto 4, 3) := by decide +kernel
theorem dX9_crowd_149 : decode cX9_crowd 149 = .ok (.iload_n 1, 1) := by decide +kernel
theorem dX9_crowd_150 : decode cX9_crowd 150 = .ok (.istore_n 1, 1) := by decide +kernel
theorem dX9_crowd_151 : decode cX9_crowd 151 = .ok (.iinc 2 1, 3) := by decide +kernel
theorem dX9_crowd_154 : decode cX9_crowd 154 = .ok (.goto (-149), 3) := by decide +kernel
theorem dX9_crowd_157 : decode cX9_crowd 157 = .ok (.iload_n 1, 1) := by decide +kernel
theorem dX9_crowd_158 : decode cX9_crowd 158 = .ok (.ireturn, 1) := by decide +kernel
set_option maxRecDepth 20000 in
theorem ggX9_spareOf_X9_roomOf : GoodIn wsX9_spareOf wsX9_roomOf := goodIn_r _ [5, 6, 20, 21, 22, 23, 24, 25, 26, 27, 28, 29, 30, 31, 32, 33, 34, 35, 36, 37, 38, 39, 40, 41] (by decide +kernel) (by decide +kernel)
set_option maxRecDepth 20000 in
theorem gX9_spareOf_X9_roomOf : GoodIn wsX9_spareOf (wsV RX9 122 RX9 yX9_roomOf wsX9_roomOf) := goodIn_app (goodIn_of _ (by decide +kernel)) ggX9_spareOf_X9_roomOf
set_option maxRecDepth 20000 in
theorem ggX9_spareOf_X9_more : GoodIn wsX9_spareOf wsX9_more := goodIn_r _ [10, 11, 12, 13, 14, 4, 15, 16, 17, 18, 19, 20, 21, 22, 23, 24, 25, 26, 27, 28, 29, 30, 31, 32, 33, 34, 35, 36, 37, 38, 39, 40, 41] (by decide +kernel) (by decide +kernel)
set_option maxRecDepth 20000 in
theorem gX9_spareOf_X9_more : GoodIn wsX9_spareOf (wsV RX9 130 RX9 yX9_more wsX9_more) := goodIn_app (goodIn_of _ (by decide +kernel)) ggX9_spareOf_X9_more
theorem dX9_spareOf_0 : decode cX9_spareOf 0 = .ok (.aload_n 0, 1) := by decide +kernel
theorem dX9_spareOf_1 : decode cX9_spareOf 1 = .ok (.iload_n 1, 1) := by decide +kernel
theorem dX9_spareOf_2 : decode cX9_spareOf 2 = .ok (.invokevirtual 122, 3) := by decide +kernel
theorem dX9_spareOf_5 : decode cX9_spareOf 5 = .ok (.bipush (-9), 2) := by decide +kernel
theorem dX9_spareOf_7 : decode cX9_spareOf 7 = .ok (.if_icmp .ne 7, 3) := by decide +kernel
theorem dX9_spareOf_10 : decode cX9_spareOf 10 = .ok (.iconst 0, 1) := by decide +kernel
theorem dX9_spareOf_11 : decode cX9_spareOf 11 = .ok (.goto 13, 3) := by decide +kernel
theorem dX9_spareOf_14 : decode cX9_spareOf 14 = .ok (.aload_n 0, 1) := by decide +kernel
theorem dX9_spareOf_15 : decode cX9_spareOf 15 = .ok (.iload_n 1, 1) := by decide +kernel
theorem dX9_spareOf_16 : decode cX9_spareOf 16 = .ok (.aload_n 0, 1) := by decide +kernel
theorem dX9_spareOf_17 : decode cX9_spareOf 17 = .ok (.iload_n 1, 1) := by decide +kernel
theorem dX9_spareOf_18 : decode cX9_spareOf 18 = .ok (.invokevirtual 122, 3) := by decide +kernel
theorem dX9_spareOf_21 : decode cX9_spareOf 21 = .ok (.invokevirtual 130, 3) := by decide +kernel
theorem dX9_spareOf_24 : decode cX9_spareOf 24 = .ok (.ireturn, 1) := by decide +kernel
set_option maxRecDepth 20000 in
theorem ggX9_spare_X9_isTenant : GoodIn wsX9_spare wsX9_isTenant := goodIn_r _ [6, 7, 8, 9, 5, 10, 32, 33, 34, 35, 36, 37, 38, 39, 40, 41, 42, 43, 44, 45, 46, 47, 48, 49, 50, 51, 52, 53] (by decide +kernel) (by decide +kernel)
set_option maxRecDepth 20000 in
theorem gX9_spare_X9_isTenant : GoodIn wsX9_spare (wsV RX9 137 RX9 yX9_isTenant wsX9_isTenant) := goodIn_app (goodIn_of _ (by decide +kernel)) ggX9_spare_X9_isTenant
set_option maxRecDepth 20000 in
theorem ggX9_spare_X9_spareOf : GoodIn wsX9_spare wsX9_spareOf := goodIn_r _ [14, 15, 16, 17, 5, 18, 19, 20, 21, 22, 23, 7, 24, 25, 26, 27, 28, 29, 30, 31, 32, 33, 34, 35, 36, 37, 38, 39, 40, 41, 42, 43, 44, 45, 46, 47, 48, 49, 50, 51, 52, 53] (by decide +kernel) (by decide +kernel)
set_option maxRecDepth 20000 in
theorem gX9_spare_X9_spareOf : GoodIn wsX9_spare (wsV RX9 181 RX9 yX9_spareOf wsX9_spareOf) := goodIn_app (goodIn_of _ (by decide +kernel)) ggX9_spare_X9_spareOf

theorem dX2_init_53 : decode cX2_init 53 = .ok (.iconst 5, 1) := by decide +kernel
theorem dX2_init_54 : decode cX2_init 54 = .ok (.newarray .int, 2) := by decide +kernel
theorem dX2_init_56 : decode cX2_init 56 = .ok (.putfield 30, 3) := by decide +kernel
theorem dX2_init_59 : decode cX2_init 59 = .ok (.return_, 1) := by decide +kernel
theorem dX2_hasRoom_0 : decode cX2_hasRoom 0 = .ok (.iload_n 1, 1) := by decide +kernel
theorem dX2_hasRoom_1 : decode cX2_hasRoom 1 = .ok (.ifCond .lt 15, 3) := by decide +kernel
theorem dX2_hasRoom_4 : decode cX2_hasRoom 4 = .ok (.iload_n 1, 1) := by decide +kernel
theorem dX2_hasRoom_5 : decode cX2_hasRoom 5 = .ok (.aload_n 0, 1) := by decide +kernel
theorem dX2_hasRoom_6 : decode cX2_hasRoom 6 = .ok (.getfield 33, 3) := by decide +kernel
theorem dX2_hasRoom_9 : decode cX2_hasRoom 9 = .ok (.if_icmp .ge 7, 3) := by decide +kernel
theorem dX2_hasRoom_12 : decode cX2_hasRoom 12 = .ok (.iconst 1, 1) := by decide +kernel
theorem dX2_hasRoom_13 : decode cX2_hasRoom 13 = .ok (.goto 4, 3) := by decide +kernel
theorem dX2_hasRoom_16 : decode cX2_hasRoom 16 = .ok (.iconst 0, 1) := by decide +kernel
theorem dX2_hasRoom_17 : decode cX2_hasRoom 17 = .ok (.ireturn, 1) := by decide +kernel
theorem dX2_hasTenant_0 : decode cX2_hasTenant 0 = .ok (.iload_n 1, 1) := by decide +kernel
theorem dX2_hasTenant_1 : decode cX2_hasTenant 1 = .ok (.ifCond .lt 15, 3) := by decide +kernel
theorem dX2_hasTenant_4 : decode cX2_hasTenant 4 = .ok (.iload_n 1, 1) := by decide +kernel
theorem dX2_hasTenant_5 : decode cX2_hasTenant 5 = .ok (.aload_n 0, 1) := by decide +kernel
theorem dX2_hasTenant_6 : decode cX2_hasTenant 6 = .ok (.getfield 37, 3) := by decide +kernel
theorem dX2_hasTenant_9 : decode cX2_hasTenant 9 = .ok (.if_icmp .ge 7, 3) := by decide +kernel
theorem dX2_hasTenant_12 : decode cX2_hasTenant 12 = .ok (.iconst 1, 1) := by decide +kernel
theorem dX2_hasTenant_13 : decode cX2_hasTenant 13 = .ok (.goto 4, 3) := by decide +kernel
theorem dX2_hasTenant_16 : decode cX2_hasTenant 16 = .ok (.iconst 0, 1) := by decide +kernel
theorem dX2_hasTenant_17 : decode cX2_hasTenant 17 = .ok (.ireturn, 1) := by decide +kernel
theorem dX2_hasChair_0 : decode cX2_hasChair 0 = .ok (.iload_n 1, 1) := by decide +kernel
theorem dX2_hasChair_1 : decode cX2_hasChair 1 = .ok (.ifCond .lt 15, 3) := by decide +kernel
theorem dX2_hasChair_4 : decode cX2_hasChair 4 = .ok (.iload_n 1, 1) := by decide +kernel
theorem dX2_hasChair_5 : decode cX2_hasChair 5 = .ok (.aload_n 0, 1) := by decide +kernel
theorem dX2_hasChair_6 : decode cX2_hasChair 6 = .ok (.getfield 40, 3) := by decide +kernel
theorem dX2_hasChair_9 : decode cX2_hasChair 9 = .ok (.if_icmp .ge 7, 3) := by decide +kernel
theorem dX2_hasChair_12 : decode cX2_hasChair 12 = .ok (.iconst 1, 1) := by decide +kernel
theorem dX2_hasChair_13 : decode cX2_hasChair 13 = .ok (.goto 4, 3) := by decide +kernel
theorem dX2_hasChair_16 : decode cX2_hasChair 16 = .ok (.iconst 0, 1) := by decide +kernel
theorem dX2_hasChair_17 : decode cX2_hasChair 17 = .ok (.ireturn, 1) := by decide +kernel
theorem dX2_everybody_0 : decode cX2_everybody 0 = .ok (.iconst 1, 1) := by decide +kernel
theorem dX2_everybody_1 : decode cX2_everybody 1 = .ok (.aload_n 0, 1) := by decide +kernel
theorem dX2_everybody_2 : decode cX2_everybody 2 = .ok (.getfield 37, 3) := by decide +kernel
theorem dX2_everybody_5 : decode cX2_everybody 5 = .ok (.ishl, 1) := by decide +kernel
theorem dX2_everybody_6 : decode cX2_everybody 6 = .ok (.iconst 1, 1) := by decide +kernel
theorem dX2_everybody_7 : decode cX2_everybody 7 = .ok (.isub, 1) := by decide +kernel
theorem dX2_everybody_8 : decode cX2_everybody 8 = .ok (.ireturn, 1) := by decide +kernel
theorem dX2_freeHours_0 : decode cX2_freeHours 0 = .ok (.bipush 24, 2) := by decide +kernel
theorem dX2_freeHours_2 : decode cX2_freeHours 2 = .ok (.aload_n 0, 1) := by decide +kernel
theorem dX2_freeHours_3 : decode cX2_freeHours 3 = .ok (.getfield 15, 3) := by decide +kernel
theorem dX2_freeHours_6 : decode cX2_freeHours 6 = .ok (.iload_n 1, 1) := by decide +kernel
theorem dX2_freeHours_7 : decode cX2_freeHours 7 = .ok (.iaload, 1) := by decide +kernel
theorem dX2_freeHours_8 : decode cX2_freeHours 8 = .ok (.isub, 1) := by decide +kernel
theorem dX2_freeHours_9 : decode cX2_freeHours 9 = .ok (.ireturn, 1) := by decide +kernel
set_option maxRecDepth 20000 in
theorem ggX2_keepsSilent_X2_freeHours : GoodIn wsX2_keepsSilent wsX2_freeHours := goodIn_r _ [6, 7, 8, 9, 10, 11, 12, 13, 14, 15, 16, 17] (by decide +kernel) (by decide +kernel)
set_option maxRecDepth 20000 in
theorem gX2_keepsSilent_X2_freeHours : GoodIn wsX2_keepsSilent (wsV RX2 43 RX2 yX2_freeHours wsX2_freeHours) := goodIn_app (goodIn_of _ (by decide +kernel)) ggX2_keepsSilent_X2_freeHours
theorem dX2_keepsSilent_0 : decode cX2_keepsSilent 0 = .ok (.aload_n 0, 1) := by decide +kernel
theorem dX2_keepsSilent_1 : decode cX2_keepsSilent 1 = .ok (.iload_n 1, 1) := by decide +kernel
theorem dX2_keepsSilent_2 : decode cX2_keepsSilent 2 = .ok (.invokevirtual 43, 3) := by decide +kernel
theorem dX2_keepsSilent_5 : decode cX2_keepsSilent 5 = .ok (.aload_n 0, 1) := by decide +kernel
theorem dX2_keepsSilent_6 : decode cX2_keepsSilent 6 = .ok (.getfield 18, 3) := by decide +kernel
theorem dX2_keepsSilent_9 : decode cX2_keepsSilent 9 = .ok (.iload_n 1, 1) := by decide +kernel
theorem dX2_keepsSilent_10 : decode cX2_keepsSilent 10 = .ok (.iaload, 1) := by decide +kernel
theorem dX2_keepsSilent_11 : decode cX2_keepsSilent 11 = .ok (.isub, 1) := by decide +kernel
theorem dX2_keepsSilent_12 : decode cX2_keepsSilent 12 = .ok (.ireturn, 1) := by decide +kernel
set_option maxRecDepth 20000 in
theorem ggX2_meets_X2_keepsSilent : GoodIn wsX2_meets wsX2_keepsSilent := goodIn_r _ [6, 7, 8, 9, 10, 5, 11, 12, 13, 14, 15, 16, 17, 18, 19, 20, 21, 22] (by decide +kernel) (by decide +kernel)
set_option maxRecDepth 20000 in
theorem gX2_meets_X2_keepsSilent : GoodIn wsX2_meets (wsV RX2 47 RX2 yX2_keepsSilent wsX2_keepsSilent) := goodIn_app (goodIn_of _ (by decide +kernel)) ggX2_meets_X2_keepsSilent
theorem dX2_meets_0 : decode cX2_meets 0 = .ok (.aload_n 0, 1) := by decide +kernel
theorem dX2_meets_1 : decode cX2_meets 1 = .ok (.iload_n 1, 1) := by decide +kernel
theorem dX2_meets_2 : decode cX2_meets 2 = .ok (.invokevirtual 47, 3) := by decide +kernel
theorem dX2_meets_5 : decode cX2_meets 5 = .ok (.aload_n 0, 1) := by decide +kernel
theorem dX2_meets_6 : decode cX2_meets 6 = .ok (.getfield 9, 3) := by decide +kernel
theorem dX2_meets_9 : decode cX2_meets 9 = .ok (.iload_n 2, 1) := by decide +kernel
theorem dX2_meets_10 : decode cX2_meets 10 = .ok (.iaload, 1) := by decide +kernel
theorem dX2_meets_11 : decode cX2_meets 11 = .ok (.if_icmp .lt 7, 3) := by decide +kernel
theorem dX2_meets_14 : decode cX2_meets 14 = .ok (.iconst 1, 1) := by decide +kernel
theorem dX2_meets_15 : decode cX2_meets 15 = .ok (.goto 4, 3) := by decide +kernel
theorem dX2_meets_18 : decode cX2_meets 18 = .ok (.iconst 0, 1) := by decide +kernel
theorem dX2_meets_19 : decode cX2_meets 19 = .ok (.ireturn, 1) := by decide +kernel
set_option maxRecDepth 20000 in
theorem ggX2_whoMeets_X2_meets : GoodIn wsX2_whoMeets wsX2_meets := goodIn_r _ [6, 7, 8, 9, 10, 5, 11, 12, 13, 14, 15, 16, 17, 18, 19, 20, 21, 22, 23, 24, 25, 26, 27] (by decide +kernel) (by decide +kernel)
set_option maxRecDepth 20000 in
theorem gX2_whoMeets_X2_meets : GoodIn wsX2_whoMeets (wsV RX2 50 RX2 yX2_meets wsX2_meets) := goodIn_app (goodIn_of _ (by decide +kernel)) ggX2_whoMeets_X2_meets
theorem dX2_whoMeets_0 : decode cX2_whoMeets 0 = .ok (.iconst 0, 1) := by decide +kernel
theorem dX2_whoMeets_1 : decode cX2_whoMeets 1 = .ok (.istore_n 2, 1) := by decide +kernel
theorem dX2_whoMeets_2 : decode cX2_whoMeets 2 = .ok (.iconst 0, 1) := by decide +kernel
theorem dX2_whoMeets_3 : decode cX2_whoMeets 3 = .ok (.istore_n 3, 1) := by decide +kernel
theorem dX2_whoMeets_4 : decode cX2_whoMeets 4 = .ok (.iload_n 3, 1) := by decide +kernel
theorem dX2_whoMeets_5 : decode cX2_whoMeets 5 = .ok (.aload_n 0, 1) := by decide +kernel
theorem dX2_whoMeets_6 : decode cX2_whoMeets 6 = .ok (.getfield 37, 3) := by decide +kernel
theorem dX2_whoMeets_9 : decode cX2_whoMeets 9 = .ok (.if_icmp .ge 24, 3) := by decide +kernel
theorem dX2_whoMeets_12 : decode cX2_whoMeets 12 = .ok (.aload_n 0, 1) := by decide +kernel
theorem dX2_whoMeets_13 : decode cX2_whoMeets 13 = .ok (.iload_n 3, 1) := by decide +kernel
theorem dX2_whoMeets_14 : decode cX2_whoMeets 14 = .ok (.iload_n 1, 1) := by decide +kernel
theorem dX2_whoMeets_15 : decode cX2_whoMeets 15 = .ok (.invokevirtual 50, 3) := by decide +kernel
theorem dX2_whoMeets_18 : decode cX2_whoMeets 18 = .ok (.ifCond .eq 9, 3) := by decide +kernel
theorem dX2_whoMeets_21 : decode cX2_whoMeets 21 = .ok (.iload_n 2, 1) := by decide +kernel
theorem dX2_whoMeets_22 : decode cX2_whoMeets 22 = .ok (.iconst 1, 1) := by decide +kernel
theorem dX2_whoMeets_23 : decode cX2_whoMeets 23 = .ok (.iload_n 3, 1) := by decide +kernel
theorem dX2_whoMeets_24 : decode cX2_whoMeets 24 = .ok (.ishl, 1) := by decide +kernel
theorem dX2_whoMeets_25 : decode cX2_whoMeets 25 = .ok (.ior, 1) := by decide +kernel
theorem dX2_whoMeets_26 : decode cX2_whoMeets 26 = .ok (.istore_n 2, 1) := by decide +kernel
theorem dX2_whoMeets_27 : decode cX2_whoMeets 27 = .ok (.iinc 3 1, 3) := by decide +kernel
theorem dX2_whoMeets_30 : decode cX2_whoMeets 30 = .ok (.goto (-26), 3) := by decide +kernel
theorem dX2_whoMeets_33 : decode cX2_whoMeets 33 = .ok (.iload_n 2, 1) := by decide +kernel
theorem dX2_whoMeets_34 : decode cX2_whoMeets 34 = .ok (.ireturn, 1) := by decide +kernel
set_option maxRecDepth 20000 in
theorem ggX2_roomsMetBy_X2_whoMeets : GoodIn wsX2_roomsMetBy wsX2_whoMeets := goodIn_r _ [6, 7, 8, 9, 10, 5, 11, 12, 13, 14, 15, 16, 17, 18, 19, 20, 21, 22, 23, 24, 25, 26, 27, 28, 29, 30, 31, 32] (by decide +kernel) (by decide +kernel)
set_option maxRecDepth 20000 in
theorem gX2_roomsMetBy_X2_whoMeets : GoodIn wsX2_roomsMetBy (wsV RX2 54 RX2 yX2_whoMeets wsX2_whoMeets) := goodIn_app (goodIn_of _ (by decide +kernel)) ggX2_roomsMetBy_X2_whoMeets
theorem dX2_roomsMetBy_0 : decode cX2_roomsMetBy 0 = .ok (.iconst 0, 1) := by decide +kernel
theorem dX2_roomsMetBy_1 : decode cX2_roomsMetBy 1 = .ok (.istore_n 2, 1) := by decide +kernel
theorem dX2_roomsMetBy_2 : decode cX2_roomsMetBy 2 = .ok (.iconst 0, 1) := by decide +kernel
theorem dX2_roomsMetBy_3 : decode cX2_roomsMetBy 3 = .ok (.istore_n 3, 1) := by decide +kernel
theorem dX2_roomsMetBy_4 : decode cX2_roomsMetBy 4 = .ok (.iload_n 3, 1) := by decide +kernel
theorem dX2_roomsMetBy_5 : decode cX2_roomsMetBy 5 = .ok (.aload_n 0, 1) := by decide +kernel
theorem dX2_roomsMetBy_6 : decode cX2_roomsMetBy 6 = .ok (.getfield 33, 3) := by decide +kernel
theorem dX2_roomsMetBy_9 : decode cX2_roomsMetBy 9 = .ok (.if_icmp .ge 25, 3) := by decide +kernel
theorem dX2_roomsMetBy_12 : decode cX2_roomsMetBy 12 = .ok (.aload_n 0, 1) := by decide +kernel
theorem dX2_roomsMetBy_13 : decode cX2_roomsMetBy 13 = .ok (.iload_n 3, 1) := by decide +kernel
theorem dX2_roomsMetBy_14 : decode cX2_roomsMetBy 14 = .ok (.invokevirtual 54, 3) := by decide +kernel
theorem dX2_roomsMetBy_17 : decode cX2_roomsMetBy 17 = .ok (.iload_n 1, 1) := by decide +kernel
theorem dX2_roomsMetBy_18 : decode cX2_roomsMetBy 18 = .ok (.iand, 1) := by decide +kernel
theorem dX2_roomsMetBy_19 : decode cX2_roomsMetBy 19 = .ok (.ifCond .eq 9, 3) := by decide +kernel
theorem dX2_roomsMetBy_22 : decode cX2_roomsMetBy 22 = .ok (.iload_n 2, 1) := by decide +kernel
theorem dX2_roomsMetBy_23 : decode cX2_roomsMetBy 23 = .ok (.iconst 1, 1) := by decide +kernel
theorem dX2_roomsMetBy_24 : decode cX2_roomsMetBy 24 = .ok (.iload_n 3, 1) := by decide +kernel
theorem dX2_roomsMetBy_25 : decode cX2_roomsMetBy 25 = .ok (.ishl, 1) := by decide +kernel
theorem dX2_roomsMetBy_26 : decode cX2_roomsMetBy 26 = .ok (.ior, 1) := by decide +kernel
theorem dX2_roomsMetBy_27 : decode cX2_roomsMetBy 27 = .ok (.istore_n 2, 1) := by decide +kernel
theorem dX2_roomsMetBy_28 : decode cX2_roomsMetBy 28 = .ok (.iinc 3 1, 3) := by decide +kernel
theorem dX2_roomsMetBy_31 : decode cX2_roomsMetBy 31 = .ok (.goto (-27), 3) := by decide +kernel
theorem dX2_roomsMetBy_34 : decode cX2_roomsMetBy 34 = .ok (.iload_n 2, 1) := by decide +kernel
theorem dX2_roomsMetBy_35 : decode cX2_roomsMetBy 35 = .ok (.ireturn, 1) := by decide +kernel
theorem dX2_hearers_0 : decode cX2_hearers 0 = .ok (.iconst 0, 1) := by decide +kernel
theorem dX2_hearers_1 : decode cX2_hearers 1 = .ok (.istore_n 2, 1) := by decide +kernel
theorem dX2_hearers_2 : decode cX2_hearers 2 = .ok (.iconst 0, 1) := by decide +kernel
theorem dX2_hearers_3 : decode cX2_hearers 3 = .ok (.istore_n 3, 1) := by decide +kernel
theorem dX2_hearers_4 : decode cX2_hearers 4 = .ok (.iload_n 3, 1) := by decide +kernel
theorem dX2_hearers_5 : decode cX2_hearers 5 = .ok (.aload_n 0, 1) := by decide +kernel
theorem dX2_hearers_6 : decode cX2_hearers 6 = .ok (.getfield 37, 3) := by decide +kernel
theorem dX2_hearers_9 : decode cX2_hearers 9 = .ok (.if_icmp .ge 26, 3) := by decide +kernel
theorem dX2_hearers_12 : decode cX2_hearers 12 = .ok (.aload_n 0, 1) := by decide +kernel
theorem dX2_hearers_13 : decode cX2_hearers 13 = .ok (.getfield 27, 3) := by decide +kernel
theorem dX2_hearers_16 : decode cX2_hearers 16 = .ok (.iload_n 3, 1) := by decide +kernel
theorem dX2_hearers_17 : decode cX2_hearers 17 = .ok (.iaload, 1) := by decide +kernel
theorem dX2_hearers_18 : decode cX2_hearers 18 = .ok (.iload_n 1, 1) := by decide +kernel
theorem dX2_hearers_19 : decode cX2_hearers 19 = .ok (.iand, 1) := by decide +kernel
theorem dX2_hearers_20 : decode cX2_hearers 20 = .ok (.ifCond .eq 9, 3) := by decide +kernel
theorem dX2_hearers_23 : decode cX2_hearers 23 = .ok (.iload_n 2, 1) := by decide +kernel
theorem dX2_hearers_24 : decode cX2_hearers 24 = .ok (.iconst 1, 1) := by decide +kernel
theorem dX2_hearers_25 : decode cX2_hearers 25 = .ok (.iload_n 3, 1) := by decide +kernel
theorem dX2_hearers_26 : decode cX2_hearers 26 = .ok (.ishl, 1) := by decide +kernel
theorem dX2_hearers_27 : decode cX2_hearers 27 = .ok (.ior, 1) := by decide +kernel
theorem dX2_hearers_28 : decode cX2_hearers 28 = .ok (.istore_n 2, 1) := by decide +kernel
theorem dX2_hearers_29 : decode cX2_hearers 29 = .ok (.iinc 3 1, 3) := by decide +kernel
theorem dX2_hearers_32 : decode cX2_hearers 32 = .ok (.goto (-28), 3) := by decide +kernel
theorem dX2_hearers_35 : decode cX2_hearers 35 = .ok (.iload_n 2, 1) := by decide +kernel
theorem dX2_hearers_36 : decode cX2_hearers 36 = .ok (.ireturn, 1) := by decide +kernel
theorem dX2_seenFrom_0 : decode cX2_seenFrom 0 = .ok (.iconst 0, 1) := by decide +kernel
theorem dX2_seenFrom_1 : decode cX2_seenFrom 1 = .ok (.istore_n 2, 1) := by decide +kernel
theorem dX2_seenFrom_2 : decode cX2_seenFrom 2 = .ok (.iconst 0, 1) := by decide +kernel
theorem dX2_seenFrom_3 : decode cX2_seenFrom 3 = .ok (.istore_n 3, 1) := by decide +kernel
theorem dX2_seenFrom_4 : decode cX2_seenFrom 4 = .ok (.iload_n 3, 1) := by decide +kernel
theorem dX2_seenFrom_5 : decode cX2_seenFrom 5 = .ok (.aload_n 0, 1) := by decide +kernel
theorem dX2_seenFrom_6 : decode cX2_seenFrom 6 = .ok (.getfield 40, 3) := by decide +kernel
theorem dX2_seenFrom_9 : decode cX2_seenFrom 9 = .ok (.if_icmp .ge 26, 3) := by decide +kernel
theorem dX2_seenFrom_12 : decode cX2_seenFrom 12 = .ok (.iload_n 1, 1) := by decide +kernel
theorem dX2_seenFrom_13 : decode cX2_seenFrom 13 = .ok (.iload_n 3, 1) := by decide +kernel
theorem dX2_seenFrom_14 : decode cX2_seenFrom 14 = .ok (.ishr, 1) := by decide +kernel
theorem dX2_seenFrom_15 : decode cX2_seenFrom 15 = .ok (.iconst 1, 1) := by decide +kernel
theorem dX2_seenFrom_16 : decode cX2_seenFrom 16 = .ok (.iand, 1) := by decide +kernel
theorem dX2_seenFrom_17 : decode cX2_seenFrom 17 = .ok (.ifCond .eq 12, 3) := by decide +kernel
theorem dX2_seenFrom_20 : decode cX2_seenFrom 20 = .ok (.iload_n 2, 1) := by decide +kernel
theorem dX2_seenFrom_21 : decode cX2_seenFrom 21 = .ok (.aload_n 0, 1) := by decide +kernel
theorem dX2_seenFrom_22 : decode cX2_seenFrom 22 = .ok (.getfield 30, 3) := by decide +kernel
theorem dX2_seenFrom_25 : decode cX2_seenFrom 25 = .ok (.iload_n 3, 1) := by decide +kernel
theorem dX2_seenFrom_26 : decode cX2_seenFrom 26 = .ok (.iaload, 1) := by decide +kernel
theorem dX2_seenFrom_27 : decode cX2_seenFrom 27 = .ok (.ior, 1) := by decide +kernel
theorem dX2_seenFrom_28 : decode cX2_seenFrom 28 = .ok (.istore_n 2, 1) := by decide +kernel
theorem dX2_seenFrom_29 : decode cX2_seenFrom 29 = .ok (.iinc 3 1, 3) := by decide +kernel
theorem dX2_seenFrom_32 : decode cX2_seenFrom 32 = .ok (.goto (-28), 3) := by decide +kernel
theorem dX2_seenFrom_35 : decode cX2_seenFrom 35 = .ok (.iload_n 2, 1) := by decide +kernel
theorem dX2_seenFrom_36 : decode cX2_seenFrom 36 = .ok (.ireturn, 1) := by decide +kernel
theorem dX3_init_0 : decode cX3_init 0 = .ok (.aload_n 0, 1) := by decide +kernel
theorem dX3_init_1 : decode cX3_init 1 = .ok (.invokespecial 3, 3) := by decide +kernel
theorem dX3_init_4 : decode cX3_init 4 = .ok (.aload_n 0, 1) := by decide +kernel
theorem dX3_init_5 : decode cX3_init 5 = .ok (.bipush 6, 2) := by decide +kernel
theorem dX3_init_7 : decode cX3_init 7 = .ok (.newarray .int, 2) := by decide +kernel
theorem dX3_init_9 : decode cX3_init 9 = .ok (.putfield 9, 3) := by decide +kernel
theorem dX3_init_12 : decode cX3_init 12 = .ok (.aload_n 0, 1) := by decide +kernel
theorem dX3_init_13 : decode cX3_init 13 = .ok (.bipush 7, 2) := by decide +kernel
theorem dX3_init_15 : decode cX3_init 15 = .ok (.bipush 64, 2) := by decide +kernel
theorem dX3_init_17 : decode cX3_init 17 = .ok (.multianewarray 15 2, 4) := by decide +kernel
theorem dX3_init_21 : decode cX3_init 21 = .ok (.putfield 17, 3) := by decide +kernel
theorem dX3_init_24 : decode cX3_init 24 = .ok (.return_, 1) := by decide +kernel
set_option maxRecDepth 20000 in
theorem ggX3_solve_J7_fill_53178 : GoodIn wsX3_solve wsJ7_fill_53178 := goodIn_r _ [8] (by decide +kernel) (by decide +kernel)
set_option maxRecDepth 20000 in
theorem gX3_solve_J7_fill_53178 : GoodIn wsX3_solve (va_wsS RX3 26 yJ7_fill_53178 wsJ7_fill_53178) := goodIn_app (goodIn_of _ (by decide +kernel)) ggX3_solve_J7_fill_53178
set_option maxRecDepth 20000 in
theorem ggX3_solve_X3_mostFrom : GoodIn wsX3_solve wsX3_mostFrom := goodIn_r _ [13, 1, 3, 14, 15, 16, 17, 18, 19, 20, 12, 21, 22, 23, 24, 25, 26, 27, 28, 29, 30, 31, 32, 33, 34, 35, 36, 37, 38, 39, 40, 41, 42, 47, 48, 49, 50, 51, 52, 53, 54, 55, 56, 57, 58] (by decide +kernel) (by decide +kernel)
set_option maxRecDepth 20000 in
theorem gX3_solve_X3_mostFrom : GoodIn wsX3_solve (wsV RX3 35 RX3 yX3_mostFrom wsX3_mostFrom) := goodIn_app (goodIn_of _ (by decide +kernel)) ggX3_solve_X3_mostFrom
set_option maxRecDepth 20000 in
theorem ggX3_solve_X3_firstOfBest : GoodIn wsX3_solve wsX3_firstOfBest := goodIn_r _ [46, 3, 1, 18, 19, 20, 12, 21, 22, 23, 24, 25, 26, 27, 28, 29, 30, 31, 32, 33, 34, 35, 36, 37, 38, 39, 40, 41, 42, 49, 50, 51, 52, 53, 54, 55, 56, 57, 58, 47, 48] (by decide +kernel) (by decide +kernel)
set_option maxRecDepth 20000 in
theorem gX3_solve_X3_firstOfBest : GoodIn wsX3_solve (wsV RX3 39 RX3 yX3_firstOfBest wsX3_firstOfBest) := goodIn_app (goodIn_of _ (by decide +kernel)) ggX3_solve_X3_firstOfBest
theorem dX3_solve_0 : decode cX3_solve 0 = .ok (.aload_n 0, 1) := by decide +kernel
theorem dX3_solve_1 : decode cX3_solve 1 = .ok (.getfield 17, 3) := by decide +kernel
theorem dX3_solve_4 : decode cX3_solve 4 = .ok (.aload_n 1, 1) := by decide +kernel
theorem dX3_solve_5 : decode cX3_solve 5 = .ok (.getfield 20, 3) := by decide +kernel
theorem dX3_solve_8 : decode cX3_solve 8 = .ok (.aaload, 1) := by decide +kernel
theorem dX3_solve_9 : decode cX3_solve 9 = .ok (.iconst 0, 1) := by decide +kernel
theorem dX3_solve_10 : decode cX3_solve 10 = .ok (.invokestatic 26, 3) := by decide +kernel
theorem dX3_solve_13 : decode cX3_solve 13 = .ok (.aload_n 1, 1) := by decide +kernel
theorem dX3_solve_14 : decode cX3_solve 14 = .ok (.getfield 20, 3) := by decide +kernel
theorem dX3_solve_17 : decode cX3_solve 17 = .ok (.iconst 1, 1) := by decide +kernel
theorem dX3_solve_18 : decode cX3_solve 18 = .ok (.isub, 1) := by decide +kernel
theorem dX3_solve_19 : decode cX3_solve 19 = .ok (.istore_n 2, 1) := by decide +kernel
theorem dX3_solve_20 : decode cX3_solve 20 = .ok (.iload_n 2, 1) := by decide +kernel
theorem dX3_solve_21 : decode cX3_solve 21 = .ok (.ifCond .lt 42, 3) := by decide +kernel
theorem dX3_solve_24 : decode cX3_solve 24 = .ok (.iconst 0, 1) := by decide +kernel
theorem dX3_solve_25 : decode cX3_solve 25 = .ok (.istore_n 3, 1) := by decide +kernel
theorem dX3_solve_26 : decode cX3_solve 26 = .ok (.iload_n 3, 1) := by decide +kernel
theorem dX3_solve_27 : decode cX3_solve 27 = .ok (.iconst 1, 1) := by decide +kernel
theorem dX3_solve_28 : decode cX3_solve 28 = .ok (.aload_n 1, 1) := by decide +kernel
theorem dX3_solve_29 : decode cX3_solve 29 = .ok (.getfield 32, 3) := by decide +kernel
theorem dX3_solve_32 : decode cX3_solve 32 = .ok (.ishl, 1) := by decide +kernel
theorem dX3_solve_33 : decode cX3_solve 33 = .ok (.if_icmp .ge 24, 3) := by decide +kernel
theorem dX3_solve_36 : decode cX3_solve 36 = .ok (.aload_n 0, 1) := by decide +kernel
theorem dX3_solve_37 : decode cX3_solve 37 = .ok (.getfield 17, 3) := by decide +kernel
theorem dX3_solve_40 : decode cX3_solve 40 = .ok (.iload_n 2, 1) := by decide +kernel
theorem dX3_solve_41 : decode cX3_solve 41 = .ok (.aaload, 1) := by decide +kernel
theorem dX3_solve_42 : decode cX3_solve 42 = .ok (.iload_n 3, 1) := by decide +kernel
theorem dX3_solve_43 : decode cX3_solve 43 = .ok (.aload_n 0, 1) := by decide +kernel
theorem dX3_solve_44 : decode cX3_solve 44 = .ok (.aload_n 1, 1) := by decide +kernel
theorem dX3_solve_45 : decode cX3_solve 45 = .ok (.iload_n 2, 1) := by decide +kernel
theorem dX3_solve_46 : decode cX3_solve 46 = .ok (.iload_n 3, 1) := by decide +kernel
theorem dX3_solve_47 : decode cX3_solve 47 = .ok (.invokevirtual 35, 3) := by decide +kernel
theorem dX3_solve_50 : decode cX3_solve 50 = .ok (.iastore, 1) := by decide +kernel
theorem dX3_solve_51 : decode cX3_solve 51 = .ok (.iinc 3 1, 3) := by decide +kernel
theorem dX3_solve_54 : decode cX3_solve 54 = .ok (.goto (-28), 3) := by decide +kernel
theorem dX3_solve_57 : decode cX3_solve 57 = .ok (.iinc 2 (-1), 3) := by decide +kernel
theorem dX3_solve_60 : decode cX3_solve 60 = .ok (.goto (-40), 3) := by decide +kernel
theorem dX3_solve_63 : decode cX3_solve 63 = .ok (.iconst 0, 1) := by decide +kernel
theorem dX3_solve_64 : decode cX3_solve 64 = .ok (.istore_n 2, 1) := by decide +kernel
theorem dX3_solve_65 : decode cX3_solve 65 = .ok (.iconst 0, 1) := by decide +kernel
theorem dX3_solve_66 : decode cX3_solve 66 = .ok (.istore_n 3, 1) := by decide +kernel
theorem dX3_solve_67 : decode cX3_solve 67 = .ok (.iload_n 3, 1) := by decide +kernel
theorem dX3_solve_68 : decode cX3_solve 68 = .ok (.aload_n 1, 1) := by decide +kernel
theorem dX3_solve_69 : decode cX3_solve 69 = .ok (.getfield 20, 3) := by decide +kernel
theorem dX3_solve_72 : decode cX3_solve 72 = .ok (.if_icmp .ge 44, 3) := by decide +kernel
theorem dX3_solve_75 : decode cX3_solve 75 = .ok (.aload_n 0, 1) := by decide +kernel
theorem dX3_solve_76 : decode cX3_solve 76 = .ok (.getfield 9, 3) := by decide +kernel
theorem dX3_solve_79 : decode cX3_solve 79 = .ok (.iload_n 3, 1) := by decide +kernel
theorem dX3_solve_80 : decode cX3_solve 80 = .ok (.aload_n 0, 1) := by decide +kernel
theorem dX3_solve_81 : decode cX3_solve 81 = .ok (.aload_n 1, 1) := by decide +kernel
theorem dX3_solve_82 : decode cX3_solve 82 = .ok (.iload_n 3, 1) := by decide +kernel
theorem dX3_solve_83 : decode cX3_solve 83 = .ok (.iload_n 2, 1) := by decide +kernel
theorem dX3_solve_84 : decode cX3_solve 84 = .ok (.invokevirtual 39, 3) := by decide +kernel
theorem dX3_solve_87 : decode cX3_solve 87 = .ok (.iastore, 1) := by decide +kernel
theorem dX3_solve_88 : decode cX3_solve 88 = .ok (.aload_n 0, 1) := by decide +kernel
theorem dX3_solve_89 : decode cX3_solve 89 = .ok (.getfield 9, 3) := by decide +kernel
theorem dX3_solve_92 : decode cX3_solve 92 = .ok (.iload_n 3, 1) := by decide +kernel
theorem dX3_solve_93 : decode cX3_solve 93 = .ok (.iaload, 1) := by decide +kernel
theorem dX3_solve_94 : decode cX3_solve 94 = .ok (.bipush (-9), 2) := by decide +kernel
theorem dX3_solve_96 : decode cX3_solve 96 = .ok (.if_icmp .eq 14, 3) := by decide +kernel
theorem dX3_solve_99 : decode cX3_solve 99 = .ok (.iload_n 2, 1) := by decide +kernel
theorem dX3_solve_100 : decode cX3_solve 100 = .ok (.iconst 1, 1) := by decide +kernel
theorem dX3_solve_101 : decode cX3_solve 101 = .ok (.aload_n 0, 1) := by decide +kernel
theorem dX3_solve_102 : decode cX3_solve 102 = .ok (.getfield 9, 3) := by decide +kernel
theorem dX3_solve_105 : decode cX3_solve 105 = .ok (.iload_n 3, 1) := by decide +kernel
theorem dX3_solve_106 : decode cX3_solve 106 = .ok (.iaload, 1) := by decide +kernel
theorem dX3_solve_107 : decode cX3_solve 107 = .ok (.ishl, 1) := by decide +kernel
theorem dX3_solve_108 : decode cX3_solve 108 = .ok (.ior, 1) := by decide +kernel
theorem dX3_solve_109 : decode cX3_solve 109 = .ok (.istore_n 2, 1) := by decide +kernel
theorem dX3_solve_110 : decode cX3_solve 110 = .ok (.iinc 3 1, 3) := by decide +kernel
theorem dX3_solve_113 : decode cX3_solve 113 = .ok (.goto (-46), 3) := by decide +kernel
theorem dX3_solve_116 : decode cX3_solve 116 = .ok (.return_, 1) := by decide +kernel
theorem dX3_howMany_0 : decode cX3_howMany 0 = .ok (.iconst 0, 1) := by decide +kernel
theorem dX3_howMany_1 : decode cX3_howMany 1 = .ok (.istore_n 2, 1) := by decide +kernel
theorem dX3_howMany_2 : decode cX3_howMany 2 = .ok (.iconst 0, 1) := by decide +kernel
theorem dX3_howMany_3 : decode cX3_howMany 3 = .ok (.istore_n 3, 1) := by decide +kernel
theorem dX3_howMany_4 : decode cX3_howMany 4 = .ok (.iload_n 3, 1) := by decide +kernel
theorem dX3_howMany_5 : decode cX3_howMany 5 = .ok (.aload_n 1, 1) := by decide +kernel
theorem dX3_howMany_6 : decode cX3_howMany 6 = .ok (.getfield 20, 3) := by decide +kernel
theorem dX3_howMany_9 : decode cX3_howMany 9 = .ok (.if_icmp .ge 23, 3) := by decide +kernel
theorem dX3_howMany_12 : decode cX3_howMany 12 = .ok (.aload_n 0, 1) := by decide +kernel
theorem dX3_howMany_13 : decode cX3_howMany 13 = .ok (.getfield 9, 3) := by decide +kernel
theorem dX3_howMany_16 : decode cX3_howMany 16 = .ok (.iload_n 3, 1) := by decide +kernel
theorem dX3_howMany_17 : decode cX3_howMany 17 = .ok (.iaload, 1) := by decide +kernel
theorem dX3_howMany_18 : decode cX3_howMany 18 = .ok (.bipush (-9), 2) := by decide +kernel
theorem dX3_howMany_20 : decode cX3_howMany 20 = .ok (.if_icmp .eq 6, 3) := by decide +kernel
theorem dX3_howMany_23 : decode cX3_howMany 23 = .ok (.iinc 2 1, 3) := by decide +kernel
theorem dX3_howMany_26 : decode cX3_howMany 26 = .ok (.iinc 3 1, 3) := by decide +kernel
theorem dX3_howMany_29 : decode cX3_howMany 29 = .ok (.goto (-25), 3) := by decide +kernel
theorem dX3_howMany_32 : decode cX3_howMany 32 = .ok (.iload_n 2, 1) := by decide +kernel
theorem dX3_howMany_33 : decode cX3_howMany 33 = .ok (.ireturn, 1) := by decide +kernel
set_option maxRecDepth 20000 in
theorem ggX3_prices_X2_hasRoom : GoodIn wsX3_prices wsX2_hasRoom := goodIn_r _ [8, 9, 10, 11, 12, 13, 14, 15, 16, 17, 18, 19] (by decide +kernel) (by decide +kernel)
set_option maxRecDepth 20000 in
theorem gX3_prices_X2_hasRoom : GoodIn wsX3_prices (wsV RX3 42 RX2 yX2_hasRoom wsX2_hasRoom) := goodIn_app (goodIn_of _ (by decide +kernel)) ggX3_prices_X2_hasRoom
theorem dX3_prices_0 : decode cX3_prices 0 = .ok (.iconst 0, 1) := by decide +kernel
theorem dX3_prices_1 : decode cX3_prices 1 = .ok (.istore_n 2, 1) := by decide +kernel
theorem dX3_prices_2 : decode cX3_prices 2 = .ok (.iconst 0, 1) := by decide +kernel
theorem dX3_prices_3 : decode cX3_prices 3 = .ok (.istore_n 3, 1) := by decide +kernel
theorem dX3_prices_4 : decode cX3_prices 4 = .ok (.iload_n 3, 1) := by decide +kernel
theorem dX3_prices_5 : decode cX3_prices 5 = .ok (.aload_n 1, 1) := by decide +kernel
theorem dX3_prices_6 : decode cX3_prices 6 = .ok (.getfield 20, 3) := by decide +kernel
theorem dX3_prices_9 : decode cX3_prices 9 = .ok (.if_icmp .ge 36, 3) := by decide +kernel
theorem dX3_prices_12 : decode cX3_prices 12 = .ok (.aload_n 1, 1) := by decide +kernel
theorem dX3_prices_13 : decode cX3_prices 13 = .ok (.aload_n 0, 1) := by decide +kernel
theorem dX3_prices_14 : decode cX3_prices 14 = .ok (.getfield 9, 3) := by decide +kernel
theorem dX3_prices_17 : decode cX3_prices 17 = .ok (.iload_n 3, 1) := by decide +kernel
theorem dX3_prices_18 : decode cX3_prices 18 = .ok (.iaload, 1) := by decide +kernel
theorem dX3_prices_19 : decode cX3_prices 19 = .ok (.invokevirtual 42, 3) := by decide +kernel
theorem dX3_prices_22 : decode cX3_prices 22 = .ok (.ifCond .eq 17, 3) := by decide +kernel
theorem dX3_prices_25 : decode cX3_prices 25 = .ok (.iload_n 2, 1) := by decide +kernel
theorem dX3_prices_26 : decode cX3_prices 26 = .ok (.aload_n 1, 1) := by decide +kernel
theorem dX3_prices_27 : decode cX3_prices 27 = .ok (.getfield 46, 3) := by decide +kernel
theorem dX3_prices_30 : decode cX3_prices 30 = .ok (.aload_n 0, 1) := by decide +kernel
theorem dX3_prices_31 : decode cX3_prices 31 = .ok (.getfield 9, 3) := by decide +kernel
theorem dX3_prices_34 : decode cX3_prices 34 = .ok (.iload_n 3, 1) := by decide +kernel
theorem dX3_prices_35 : decode cX3_prices 35 = .ok (.iaload, 1) := by decide +kernel
theorem dX3_prices_36 : decode cX3_prices 36 = .ok (.iaload, 1) := by decide +kernel
theorem dX3_prices_37 : decode cX3_prices 37 = .ok (.iadd, 1) := by decide +kernel
theorem dX3_prices_38 : decode cX3_prices 38 = .ok (.istore_n 2, 1) := by decide +kernel
theorem dX3_prices_39 : decode cX3_prices 39 = .ok (.iinc 3 1, 3) := by decide +kernel
theorem dX3_prices_42 : decode cX3_prices 42 = .ok (.goto (-38), 3) := by decide +kernel
theorem dX3_prices_45 : decode cX3_prices 45 = .ok (.iload_n 2, 1) := by decide +kernel
theorem dX3_prices_46 : decode cX3_prices 46 = .ok (.ireturn, 1) := by decide +kernel
set_option maxRecDepth 20000 in
theorem ggX3_mostFrom_X3_canTake : GoodIn wsX3_mostFrom wsX3_canTake := goodIn_r _ [11, 12, 13, 14, 15, 16, 17, 18, 19, 20, 21, 22, 23, 24, 25, 26, 27, 35, 36, 37, 38, 39, 40, 41, 42, 43, 44] (by decide +kernel) (by decide +kernel)
set_option maxRecDepth 20000 in
theorem gX3_mostFrom_X3_canTake : GoodIn wsX3_mostFrom (wsV RX3 49 RX3 yX3_canTake wsX3_canTake) := goodIn_app (goodIn_of _ (by decide +kernel)) ggX3_mostFrom_X3_canTake
set_option maxRecDepth 20000 in
theorem ggX3_mostFrom_X3_withRoom : GoodIn wsX3_mostFrom wsX3_withRoom := goodIn_r _ [31, 1, 32, 33, 34, 35, 36, 37, 38, 39, 40, 41, 42, 43, 44] (by decide +kernel) (by decide +kernel)
set_option maxRecDepth 20000 in
theorem gX3_mostFrom_X3_withRoom : GoodIn wsX3_mostFrom (wsV RX3 53 RX3 yX3_withRoom wsX3_withRoom) := goodIn_app (goodIn_of _ (by decide +kernel)) ggX3_mostFrom_X3_withRoom
theorem dX3_mostFrom_0 : decode cX3_mostFrom 0 = .ok (.aload_n 0, 1) := by decide +kernel
theorem dX3_mostFrom_1 : decode cX3_mostFrom 1 = .ok (.getfield 17, 3) := by decide +kernel
theorem dX3_mostFrom_4 : decode cX3_mostFrom 4 = .ok (.iload_n 2, 1) := by decide +kernel
theorem dX3_mostFrom_5 : decode cX3_mostFrom 5 = .ok (.iconst 1, 1) := by decide +kernel
theorem dX3_mostFrom_6 : decode cX3_mostFrom 6 = .ok (.iadd, 1) := by decide +kernel
theorem dX3_mostFrom_7 : decode cX3_mostFrom 7 = .ok (.aaload, 1) := by decide +kernel
theorem dX3_mostFrom_8 : decode cX3_mostFrom 8 = .ok (.iload_n 3, 1) := by decide +kernel
theorem dX3_mostFrom_9 : decode cX3_mostFrom 9 = .ok (.iaload, 1) := by decide +kernel
theorem dX3_mostFrom_10 : decode cX3_mostFrom 10 = .ok (.istore 4, 2) := by decide +kernel
theorem dX3_mostFrom_12 : decode cX3_mostFrom 12 = .ok (.iconst 0, 1) := by decide +kernel
theorem dX3_mostFrom_13 : decode cX3_mostFrom 13 = .ok (.istore 5, 2) := by decide +kernel
theorem dX3_mostFrom_15 : decode cX3_mostFrom 15 = .ok (.iload 5, 2) := by decide +kernel
theorem dX3_mostFrom_17 : decode cX3_mostFrom 17 = .ok (.aload_n 1, 1) := by decide +kernel
theorem dX3_mostFrom_18 : decode cX3_mostFrom 18 = .ok (.getfield 32, 3) := by decide +kernel
theorem dX3_mostFrom_21 : decode cX3_mostFrom 21 = .ok (.if_icmp .ge 37, 3) := by decide +kernel
theorem dX3_mostFrom_24 : decode cX3_mostFrom 24 = .ok (.aload_n 0, 1) := by decide +kernel
theorem dX3_mostFrom_25 : decode cX3_mostFrom 25 = .ok (.aload_n 1, 1) := by decide +kernel
theorem dX3_mostFrom_26 : decode cX3_mostFrom 26 = .ok (.iload_n 2, 1) := by decide +kernel
theorem dX3_mostFrom_27 : decode cX3_mostFrom 27 = .ok (.iload 5, 2) := by decide +kernel
theorem dX3_mostFrom_29 : decode cX3_mostFrom 29 = .ok (.iload_n 3, 1) := by decide +kernel
theorem dX3_mostFrom_30 : decode cX3_mostFrom 30 = .ok (.invokevirtual 49, 3) := by decide +kernel
theorem dX3_mostFrom_33 : decode cX3_mostFrom 33 = .ok (.ifCond .eq 19, 3) := by decide +kernel
theorem dX3_mostFrom_36 : decode cX3_mostFrom 36 = .ok (.iload 4, 2) := by decide +kernel
theorem dX3_mostFrom_38 : decode cX3_mostFrom 38 = .ok (.aload_n 0, 1) := by decide +kernel
theorem dX3_mostFrom_39 : decode cX3_mostFrom 39 = .ok (.aload_n 1, 1) := by decide +kernel
theorem dX3_mostFrom_40 : decode cX3_mostFrom 40 = .ok (.iload_n 2, 1) := by decide +kernel
theorem dX3_mostFrom_41 : decode cX3_mostFrom 41 = .ok (.iload 5, 2) := by decide +kernel
theorem dX3_mostFrom_43 : decode cX3_mostFrom 43 = .ok (.iload_n 3, 1) := by decide +kernel
theorem dX3_mostFrom_44 : decode cX3_mostFrom 44 = .ok (.invokevirtual 53, 3) := by decide +kernel
theorem dX3_mostFrom_47 : decode cX3_mostFrom 47 = .ok (.invokestatic 57, 3) := by decide +kernel
theorem dX3_mostFrom_50 : decode cX3_mostFrom 50 = .ok (.istore 4, 2) := by decide +kernel
theorem dX3_mostFrom_52 : decode cX3_mostFrom 52 = .ok (.iinc 5 1, 3) := by decide +kernel
theorem dX3_mostFrom_55 : decode cX3_mostFrom 55 = .ok (.goto (-40), 3) := by decide +kernel
theorem dX3_mostFrom_58 : decode cX3_mostFrom 58 = .ok (.iload 4, 2) := by decide +kernel
theorem dX3_mostFrom_60 : decode cX3_mostFrom 60 = .ok (.ireturn, 1) := by decide +kernel
set_option maxRecDepth 20000 in
theorem ggX3_firstOfBest_X3_canTake : GoodIn wsX3_firstOfBest wsX3_canTake := goodIn_r _ [7, 8, 9, 10, 11, 12, 13, 14, 15, 16, 17, 18, 19, 20, 21, 22, 23, 29, 30, 31, 32, 33, 34, 35, 36, 37, 38] (by decide +kernel) (by decide +kernel)
set_option maxRecDepth 20000 in
theorem gX3_firstOfBest_X3_canTake : GoodIn wsX3_firstOfBest (wsV RX3 49 RX3 yX3_canTake wsX3_canTake) := goodIn_app (goodIn_of _ (by decide +kernel)) ggX3_firstOfBest_X3_canTake
set_option maxRecDepth 20000 in
theorem ggX3_firstOfBest_X3_withRoom : GoodIn wsX3_firstOfBest wsX3_withRoom := goodIn_r _ [27, 2, 28, 39, 40, 29, 30, 31, 32, 33, 34, 35, 36, 37, 38] (by decide +kernel) (by decide +kernel)
set_option maxRecDepth 20000 in
theorem gX3_firstOfBest_X3_withRoom : GoodIn wsX3_firstOfBest (wsV RX3 53 RX3 yX3_withRoom wsX3_withRoom) := goodIn_app (goodIn_of _ (by decide +kernel)) ggX3_firstOfBest_X3_withRoom
theorem dX3_firstOfBest_0 : decode cX3_firstOfBest 0 = .ok (.iconst 0, 1) := by decide +kernel
theorem dX3_firstOfBest_1 : decode cX3_firstOfBest 1 = .ok (.istore 4, 2) := by decide +kernel
theorem dX3_firstOfBest_3 : decode cX3_firstOfBest 3 = .ok (.iload 4, 2) := by decide +kernel
theorem dX3_firstOfBest_5 : decode cX3_firstOfBest 5 = .ok (.aload_n 1, 1) := by decide +kernel
theorem dX3_firstOfBest_6 : decode cX3_firstOfBest 6 = .ok (.getfield 32, 3) := by decide +kernel
theorem dX3_firstOfBest_9 : decode cX3_firstOfBest 9 = .ok (.if_icmp .ge 44, 3) := by decide +kernel
theorem dX3_firstOfBest_12 : decode cX3_firstOfBest 12 = .ok (.aload_n 0, 1) := by decide +kernel
theorem dX3_firstOfBest_13 : decode cX3_firstOfBest 13 = .ok (.aload_n 1, 1) := by decide +kernel
theorem dX3_firstOfBest_14 : decode cX3_firstOfBest 14 = .ok (.iload_n 2, 1) := by decide +kernel
theorem dX3_firstOfBest_15 : decode cX3_firstOfBest 15 = .ok (.iload 4, 2) := by decide +kernel
theorem dX3_firstOfBest_17 : decode cX3_firstOfBest 17 = .ok (.iload_n 3, 1) := by decide +kernel
theorem dX3_firstOfBest_18 : decode cX3_firstOfBest 18 = .ok (.invokevirtual 49, 3) := by decide +kernel
theorem dX3_firstOfBest_21 : decode cX3_firstOfBest 21 = .ok (.ifCond .eq 26, 3) := by decide +kernel
theorem dX3_firstOfBest_24 : decode cX3_firstOfBest 24 = .ok (.aload_n 0, 1) := by decide +kernel
theorem dX3_firstOfBest_25 : decode cX3_firstOfBest 25 = .ok (.aload_n 1, 1) := by decide +kernel
theorem dX3_firstOfBest_26 : decode cX3_firstOfBest 26 = .ok (.iload_n 2, 1) := by decide +kernel
theorem dX3_firstOfBest_27 : decode cX3_firstOfBest 27 = .ok (.iload 4, 2) := by decide +kernel
theorem dX3_firstOfBest_29 : decode cX3_firstOfBest 29 = .ok (.iload_n 3, 1) := by decide +kernel
theorem dX3_firstOfBest_30 : decode cX3_firstOfBest 30 = .ok (.invokevirtual 53, 3) := by decide +kernel
theorem dX3_firstOfBest_33 : decode cX3_firstOfBest 33 = .ok (.aload_n 0, 1) := by decide +kernel
theorem dX3_firstOfBest_34 : decode cX3_firstOfBest 34 = .ok (.getfield 17, 3) := by decide +kernel
theorem dX3_firstOfBest_37 : decode cX3_firstOfBest 37 = .ok (.iload_n 2, 1) := by decide +kernel
theorem dX3_firstOfBest_38 : decode cX3_firstOfBest 38 = .ok (.aaload, 1) := by decide +kernel
theorem dX3_firstOfBest_39 : decode cX3_firstOfBest 39 = .ok (.iload_n 3, 1) := by decide +kernel
theorem dX3_firstOfBest_40 : decode cX3_firstOfBest 40 = .ok (.iaload, 1) := by decide +kernel
theorem dX3_firstOfBest_41 : decode cX3_firstOfBest 41 = .ok (.if_icmp .ne 6, 3) := by decide +kernel
theorem dX3_firstOfBest_44 : decode cX3_firstOfBest 44 = .ok (.iload 4, 2) := by decide +kernel
theorem dX3_firstOfBest_46 : decode cX3_firstOfBest 46 = .ok (.ireturn, 1) := by decide +kernel
theorem dX3_firstOfBest_47 : decode cX3_firstOfBest 47 = .ok (.iinc 4 1, 3) := by decide +kernel
theorem dX3_firstOfBest_50 : decode cX3_firstOfBest 50 = .ok (.goto (-47), 3) := by decide +kernel
theorem dX3_firstOfBest_53 : decode cX3_firstOfBest 53 = .ok (.bipush (-9), 2) := by decide +kernel
theorem dX3_firstOfBest_55 : decode cX3_firstOfBest 55 = .ok (.ireturn, 1) := by decide +kernel
set_option maxRecDepth 20000 in
theorem ggX3_canTake_X2_meets : GoodIn wsX3_canTake wsX2_meets := goodIn_r _ [5, 6, 7, 8, 9, 4, 10, 11, 12, 13, 14, 15, 16, 17, 18, 19, 20, 21, 22, 23, 24, 25, 26] (by decide +kernel) (by decide +kernel)
set_option maxRecDepth 20000 in
theorem gX3_canTake_X2_meets : GoodIn wsX3_canTake (wsV RX3 63 RX2 yX2_meets wsX2_meets) := goodIn_app (goodIn_of _ (by decide +kernel)) ggX3_canTake_X2_meets
theorem dX3_canTake_0 : decode cX3_canTake 0 = .ok (.iload 4, 2) := by decide +kernel
theorem dX3_canTake_2 : decode cX3_canTake 2 = .ok (.iload_n 3, 1) := by decide +kernel
theorem dX3_canTake_3 : decode cX3_canTake 3 = .ok (.ishr, 1) := by decide +kernel
theorem dX3_canTake_4 : decode cX3_canTake 4 = .ok (.iconst 1, 1) := by decide +kernel
theorem dX3_canTake_5 : decode cX3_canTake 5 = .ok (.iand, 1) := by decide +kernel
theorem dX3_canTake_6 : decode cX3_canTake 6 = .ok (.ifCond .ne 16, 3) := by decide +kernel
theorem dX3_canTake_9 : decode cX3_canTake 9 = .ok (.aload_n 1, 1) := by decide +kernel
theorem dX3_canTake_10 : decode cX3_canTake 10 = .ok (.iload_n 2, 1) := by decide +kernel
theorem dX3_canTake_11 : decode cX3_canTake 11 = .ok (.iload_n 3, 1) := by decide +kernel
theorem dX3_canTake_12 : decode cX3_canTake 12 = .ok (.invokevirtual 63, 3) := by decide +kernel
theorem dX3_canTake_15 : decode cX3_canTake 15 = .ok (.ifCond .eq 7, 3) := by decide +kernel
theorem dX3_canTake_18 : decode cX3_canTake 18 = .ok (.iconst 1, 1) := by decide +kernel
theorem dX3_canTake_19 : decode cX3_canTake 19 = .ok (.goto 4, 3) := by decide +kernel
theorem dX3_canTake_22 : decode cX3_canTake 22 = .ok (.iconst 0, 1) := by decide +kernel
theorem dX3_canTake_23 : decode cX3_canTake 23 = .ok (.ireturn, 1) := by decide +kernel
theorem dX3_withRoom_0 : decode cX3_withRoom 0 = .ok (.aload_n 0, 1) := by decide +kernel
theorem dX3_withRoom_1 : decode cX3_withRoom 1 = .ok (.getfield 17, 3) := by decide +kernel
theorem dX3_withRoom_4 : decode cX3_withRoom 4 = .ok (.iload_n 2, 1) := by decide +kernel
theorem dX3_withRoom_5 : decode cX3_withRoom 5 = .ok (.iconst 1, 1) := by decide +kernel
theorem dX3_withRoom_6 : decode cX3_withRoom 6 = .ok (.iadd, 1) := by decide +kernel
theorem dX3_withRoom_7 : decode cX3_withRoom 7 = .ok (.aaload, 1) := by decide +kernel
theorem dX3_withRoom_8 : decode cX3_withRoom 8 = .ok (.iload 4, 2) := by decide +kernel
theorem dX3_withRoom_10 : decode cX3_withRoom 10 = .ok (.iconst 1, 1) := by decide +kernel
theorem dX3_withRoom_11 : decode cX3_withRoom 11 = .ok (.iload_n 3, 1) := by decide +kernel
theorem dX3_withRoom_12 : decode cX3_withRoom 12 = .ok (.ishl, 1) := by decide +kernel
theorem dX3_withRoom_13 : decode cX3_withRoom 13 = .ok (.ior, 1) := by decide +kernel
theorem dX3_withRoom_14 : decode cX3_withRoom 14 = .ok (.iaload, 1) := by decide +kernel
theorem dX3_withRoom_15 : decode cX3_withRoom 15 = .ok (.sipush 1000, 3) := by decide +kernel
theorem dX3_withRoom_18 : decode cX3_withRoom 18 = .ok (.iadd, 1) := by decide +kernel
theorem dX3_withRoom_19 : decode cX3_withRoom 19 = .ok (.aload_n 1, 1) := by decide +kernel
theorem dX3_withRoom_20 : decode cX3_withRoom 20 = .ok (.getfield 46, 3) := by decide +kernel
theorem dX3_withRoom_23 : decode cX3_withRoom 23 = .ok (.iload_n 3, 1) := by decide +kernel
theorem dX3_withRoom_24 : decode cX3_withRoom 24 = .ok (.iaload, 1) := by decide +kernel
theorem dX3_withRoom_25 : decode cX3_withRoom 25 = .ok (.iadd, 1) := by decide +kernel
theorem dX3_withRoom_26 : decode cX3_withRoom 26 = .ok (.ireturn, 1) := by decide +kernel
set_option maxRecDepth 20000 in
theorem ggX4_init_X5_init : GoodIn wsX4_init wsX5_init := goodIn_r _ [14, 15, 2, 3, 16, 17, 18, 19, 20, 21, 22, 23, 24, 32, 33, 34, 35, 36] (by decide +kernel) (by decide +kernel)
set_option maxRecDepth 20000 in
theorem gX4_init_X5_init : GoodIn wsX4_init (wsX5_init) := ggX4_init_X5_init
set_option maxRecDepth 20000 in
theorem ggX4_init_X6_init : GoodIn wsX4_init wsX6_init := goodIn_r _ [27, 28, 2, 3, 29, 30, 5, 6, 31, 13, 14, 15, 16, 17, 18, 19, 20, 21, 22, 23, 24, 40, 41, 32, 33, 34, 35, 36] (by decide +kernel) (by decide +kernel)
set_option maxRecDepth 20000 in
theorem gX4_init_X6_init : GoodIn wsX4_init (wsX6_init) := ggX4_init_X6_init
theorem dX4_init_0 : decode cX4_init 0 = .ok (.aload_n 0, 1) := by decide +kernel
theorem dX4_init_1 : decode cX4_init 1 = .ok (.invokespecial 1, 3) := by decide +kernel
theorem dX4_init_4 : decode cX4_init 4 = .ok (.aload_n 0, 1) := by decide +kernel
theorem dX4_init_5 : decode cX4_init 5 = .ok (.new 7, 3) := by decide +kernel
theorem dX4_init_8 : decode cX4_init 8 = .ok (.dup, 1) := by decide +kernel
theorem dX4_init_9 : decode cX4_init 9 = .ok (.invokespecial 9, 3) := by decide +kernel
theorem dX4_init_12 : decode cX4_init 12 = .ok (.putfield 10, 3) := by decide +kernel
theorem dX4_init_15 : decode cX4_init 15 = .ok (.aload_n 0, 1) := by decide +kernel
theorem dX4_init_16 : decode cX4_init 16 = .ok (.new 16, 3) := by decide +kernel
theorem dX4_init_19 : decode cX4_init 19 = .ok (.dup, 1) := by decide +kernel
theorem dX4_init_20 : decode cX4_init 20 = .ok (.invokespecial 18, 3) := by decide +kernel
theorem dX4_init_23 : decode cX4_init 23 = .ok (.putfield 19, 3) := by decide +kernel
theorem dX4_init_26 : decode cX4_init 26 = .ok (.return_, 1) := by decide +kernel
set_option maxRecDepth 20000 in
theorem ggX5_init_J7_fill_53178 : GoodIn wsX5_init wsJ7_fill_53178 := goodIn_r _ [12] (by decide +kernel) (by decide +kernel)
set_option maxRecDepth 20000 in
theorem gX5_init_J7_fill_53178 : GoodIn wsX5_init (va_wsS RX5 24 yJ7_fill_53178 wsJ7_fill_53178) := goodIn_app (goodIn_of _ (by decide +kernel)) ggX5_init_J7_fill_53178
theorem dX5_init_0 : decode cX5_init 0 = .ok (.aload_n 0, 1) := by decide +kernel
theorem dX5_init_1 : decode cX5_init 1 = .ok (.invokespecial 3, 3) := by decide +kernel
theorem dX5_init_4 : decode cX5_init 4 = .ok (.aload_n 0, 1) := by decide +kernel
theorem dX5_init_5 : decode cX5_init 5 = .ok (.bipush 6, 2) := by decide +kernel
theorem dX5_init_7 : decode cX5_init 7 = .ok (.newarray .int, 2) := by decide +kernel
theorem dX5_init_9 : decode cX5_init 9 = .ok (.putfield 9, 3) := by decide +kernel
theorem dX5_init_12 : decode cX5_init 12 = .ok (.aload_n 0, 1) := by decide +kernel
theorem dX5_init_13 : decode cX5_init 13 = .ok (.bipush 6, 2) := by decide +kernel
theorem dX5_init_15 : decode cX5_init 15 = .ok (.newarray .int, 2) := by decide +kernel
theorem dX5_init_17 : decode cX5_init 17 = .ok (.putfield 15, 3) := by decide +kernel
theorem dX5_init_20 : decode cX5_init 20 = .ok (.aload_n 0, 1) := by decide +kernel
theorem dX5_init_21 : decode cX5_init 21 = .ok (.bipush 6, 2) := by decide +kernel
theorem dX5_init_23 : decode cX5_init 23 = .ok (.newarray .int, 2) := by decide +kernel
theorem dX5_init_25 : decode cX5_init 25 = .ok (.putfield 18, 3) := by decide +kernel
theorem dX5_init_28 : decode cX5_init 28 = .ok (.aload_n 0, 1) := by decide +kernel
theorem dX5_init_29 : decode cX5_init 29 = .ok (.bipush 6, 2) := by decide +kernel
theorem dX5_init_31 : decode cX5_init 31 = .ok (.newarray .int, 2) := by decide +kernel
theorem dX5_init_33 : decode cX5_init 33 = .ok (.putfield 21, 3) := by decide +kernel
theorem dX5_init_36 : decode cX5_init 36 = .ok (.aload_n 0, 1) := by decide +kernel
theorem dX5_init_37 : decode cX5_init 37 = .ok (.getfield 9, 3) := by decide +kernel
theorem dX5_init_40 : decode cX5_init 40 = .ok (.bipush (-9), 2) := by decide +kernel
theorem dX5_init_42 : decode cX5_init 42 = .ok (.invokestatic 24, 3) := by decide +kernel
theorem dX5_init_45 : decode cX5_init 45 = .ok (.return_, 1) := by decide +kernel
set_option maxRecDepth 20000 in
theorem ggX5_begin_J7_fill_53178 : GoodIn wsX5_begin wsJ7_fill_53178 := goodIn_r _ [9] (by decide +kernel) (by decide +kernel)
set_option maxRecDepth 20000 in
theorem gX5_begin_J7_fill_53178 : GoodIn wsX5_begin (va_wsS RX5 24 yJ7_fill_53178 wsJ7_fill_53178) := goodIn_app (goodIn_of _ (by decide +kernel)) ggX5_begin_J7_fill_53178
theorem dX5_begin_0 : decode cX5_begin 0 = .ok (.aload_n 0, 1) := by decide +kernel
theorem dX5_begin_1 : decode cX5_begin 1 = .ok (.iconst 0, 1) := by decide +kernel
theorem dX5_begin_2 : decode cX5_begin 2 = .ok (.putfield 30, 3) := by decide +kernel
theorem dX5_begin_5 : decode cX5_begin 5 = .ok (.aload_n 0, 1) := by decide +kernel
theorem dX5_begin_6 : decode cX5_begin 6 = .ok (.getfield 9, 3) := by decide +kernel
theorem dX5_begin_9 : decode cX5_begin 9 = .ok (.bipush (-9), 2) := by decide +kernel
theorem dX5_begin_11 : decode cX5_begin 11 = .ok (.invokestatic 24, 3) := by decide +kernel
theorem dX5_begin_14 : decode cX5_begin 14 = .ok (.aload_n 0, 1) := by decide +kernel
theorem dX5_begin_15 : decode cX5_begin 15 = .ok (.getfield 15, 3) := by decide +kernel
theorem dX5_begin_18 : decode cX5_begin 18 = .ok (.iconst 0, 1) := by decide +kernel
theorem dX5_begin_19 : decode cX5_begin 19 = .ok (.invokestatic 24, 3) := by decide +kernel
theorem dX5_begin_22 : decode cX5_begin 22 = .ok (.aload_n 0, 1) := by decide +kernel
theorem dX5_begin_23 : decode cX5_begin 23 = .ok (.getfield 18, 3) := by decide +kernel
theorem dX5_begin_26 : decode cX5_begin 26 = .ok (.iconst 0, 1) := by decide +kernel
theorem dX5_begin_27 : decode cX5_begin 27 = .ok (.invokestatic 24, 3) := by decide +kernel
theorem dX5_begin_30 : decode cX5_begin 30 = .ok (.aload_n 0, 1) := by decide +kernel
theorem dX5_begin_31 : decode cX5_begin 31 = .ok (.getfield 21, 3) := by decide +kernel
theorem dX5_begin_34 : decode cX5_begin 34 = .ok (.iconst 0, 1) := by decide +kernel
theorem dX5_begin_35 : decode cX5_begin 35 = .ok (.invokestatic 24, 3) := by decide +kernel
theorem dX5_begin_38 : decode cX5_begin 38 = .ok (.return_, 1) := by decide +kernel
theorem dX5_copyFrom_0 : decode cX5_copyFrom 0 = .ok (.aload_n 0, 1) := by decide +kernel
theorem dX5_copyFrom_1 : decode cX5_copyFrom 1 = .ok (.aload_n 1, 1) := by decide +kernel
theorem dX5_copyFrom_2 : decode cX5_copyFrom 2 = .ok (.getfield 30, 3) := by decide +kernel
theorem dX5_copyFrom_5 : decode cX5_copyFrom 5 = .ok (.putfield 30, 3) := by decide +kernel
theorem dX5_copyFrom_8 : decode cX5_copyFrom 8 = .ok (.aload_n 1, 1) := by decide +kernel
theorem dX5_copyFrom_9 : decode cX5_copyFrom 9 = .ok (.getfield 9, 3) := by decide +kernel
theorem dX5_copyFrom_12 : decode cX5_copyFrom 12 = .ok (.iconst 0, 1) := by decide +kernel
theorem dX5_copyFrom_13 : decode cX5_copyFrom 13 = .ok (.aload_n 0, 1) := by decide +kernel
theorem dX5_copyFrom_14 : decode cX5_copyFrom 14 = .ok (.getfield 9, 3) := by decide +kernel
theorem dX5_copyFrom_17 : decode cX5_copyFrom 17 = .ok (.iconst 0, 1) := by decide +kernel
theorem dX5_copyFrom_18 : decode cX5_copyFrom 18 = .ok (.bipush 6, 2) := by decide +kernel
theorem dX5_copyFrom_20 : decode cX5_copyFrom 20 = .ok (.invokestatic 34, 3) := by decide +kernel
theorem dX5_copyFrom_23 : decode cX5_copyFrom 23 = .ok (.aload_n 1, 1) := by decide +kernel
theorem dX5_copyFrom_24 : decode cX5_copyFrom 24 = .ok (.getfield 15, 3) := by decide +kernel
theorem dX5_copyFrom_27 : decode cX5_copyFrom 27 = .ok (.iconst 0, 1) := by decide +kernel
theorem dX5_copyFrom_28 : decode cX5_copyFrom 28 = .ok (.aload_n 0, 1) := by decide +kernel
theorem dX5_copyFrom_29 : decode cX5_copyFrom 29 = .ok (.getfield 15, 3) := by decide +kernel
theorem dX5_copyFrom_32 : decode cX5_copyFrom 32 = .ok (.iconst 0, 1) := by decide +kernel
theorem dX5_copyFrom_33 : decode cX5_copyFrom 33 = .ok (.bipush 6, 2) := by decide +kernel
theorem dX5_copyFrom_35 : decode cX5_copyFrom 35 = .ok (.invokestatic 34, 3) := by decide +kernel
theorem dX5_copyFrom_38 : decode cX5_copyFrom 38 = .ok (.aload_n 1, 1) := by decide +kernel
theorem dX5_copyFrom_39 : decode cX5_copyFrom 39 = .ok (.getfield 18, 3) := by decide +kernel
theorem dX5_copyFrom_42 : decode cX5_copyFrom 42 = .ok (.iconst 0, 1) := by decide +kernel
theorem dX5_copyFrom_43 : decode cX5_copyFrom 43 = .ok (.aload_n 0, 1) := by decide +kernel
theorem dX5_copyFrom_44 : decode cX5_copyFrom 44 = .ok (.getfield 18, 3) := by decide +kernel
theorem dX5_copyFrom_47 : decode cX5_copyFrom 47 = .ok (.iconst 0, 1) := by decide +kernel
theorem dX5_copyFrom_48 : decode cX5_copyFrom 48 = .ok (.bipush 6, 2) := by decide +kernel
theorem dX5_copyFrom_50 : decode cX5_copyFrom 50 = .ok (.invokestatic 34, 3) := by decide +kernel
theorem dX5_copyFrom_53 : decode cX5_copyFrom 53 = .ok (.aload_n 1, 1) := by decide +kernel
theorem dX5_copyFrom_54 : decode cX5_copyFrom 54 = .ok (.getfield 21, 3) := by decide +kernel
theorem dX5_copyFrom_57 : decode cX5_copyFrom 57 = .ok (.iconst 0, 1) := by decide +kernel
theorem dX5_copyFrom_58 : decode cX5_copyFrom 58 = .ok (.aload_n 0, 1) := by decide +kernel
theorem dX5_copyFrom_59 : decode cX5_copyFrom 59 = .ok (.getfield 21, 3) := by decide +kernel
theorem dX5_copyFrom_62 : decode cX5_copyFrom 62 = .ok (.iconst 0, 1) := by decide +kernel
theorem dX5_copyFrom_63 : decode cX5_copyFrom 63 = .ok (.bipush 6, 2) := by decide +kernel
theorem dX5_copyFrom_65 : decode cX5_copyFrom 65 = .ok (.invokestatic 34, 3) := by decide +kernel
theorem dX5_copyFrom_68 : decode cX5_copyFrom 68 = .ok (.return_, 1) := by decide +kernel
theorem dX5_dweller_0 : decode cX5_dweller 0 = .ok (.iconst 0, 1) := by decide +kernel
theorem dX5_dweller_1 : decode cX5_dweller 1 = .ok (.istore_n 2, 1) := by decide +kernel
theorem dX5_dweller_2 : decode cX5_dweller 2 = .ok (.iload_n 2, 1) := by decide +kernel
theorem dX5_dweller_3 : decode cX5_dweller 3 = .ok (.bipush 6, 2) := by decide +kernel
theorem dX5_dweller_5 : decode cX5_dweller 5 = .ok (.if_icmp .ge 21, 3) := by decide +kernel
theorem dX5_dweller_8 : decode cX5_dweller 8 = .ok (.aload_n 0, 1) := by decide +kernel
theorem dX5_dweller_9 : decode cX5_dweller 9 = .ok (.getfield 9, 3) := by decide +kernel
theorem dX5_dweller_12 : decode cX5_dweller 12 = .ok (.iload_n 2, 1) := by decide +kernel
theorem dX5_dweller_13 : decode cX5_dweller 13 = .ok (.iaload, 1) := by decide +kernel
theorem dX5_dweller_14 : decode cX5_dweller 14 = .ok (.iload_n 1, 1) := by decide +kernel
theorem dX5_dweller_15 : decode cX5_dweller 15 = .ok (.if_icmp .ne 5, 3) := by decide +kernel
theorem dX5_dweller_18 : decode cX5_dweller 18 = .ok (.iload_n 2, 1) := by decide +kernel
theorem dX5_dweller_19 : decode cX5_dweller 19 = .ok (.ireturn, 1) := by decide +kernel
theorem dX5_dweller_20 : decode cX5_dweller 20 = .ok (.iinc 2 1, 3) := by decide +kernel
theorem dX5_dweller_23 : decode cX5_dweller 23 = .ok (.goto (-21), 3) := by decide +kernel
theorem dX5_dweller_26 : decode cX5_dweller 26 = .ok (.bipush (-9), 2) := by decide +kernel
theorem dX5_dweller_28 : decode cX5_dweller 28 = .ok (.ireturn, 1) := by decide +kernel
theorem dX5_allDebts_0 : decode cX5_allDebts 0 = .ok (.iconst 0, 1) := by decide +kernel
theorem dX5_allDebts_1 : decode cX5_allDebts 1 = .ok (.istore_n 1, 1) := by decide +kernel
theorem dX5_allDebts_2 : decode cX5_allDebts 2 = .ok (.iconst 0, 1) := by decide +kernel
theorem dX5_allDebts_3 : decode cX5_allDebts 3 = .ok (.istore_n 2, 1) := by decide +kernel
theorem dX5_allDebts_4 : decode cX5_allDebts 4 = .ok (.iload_n 2, 1) := by decide +kernel
theorem dX5_allDebts_5 : decode cX5_allDebts 5 = .ok (.bipush 6, 2) := by decide +kernel
theorem dX5_allDebts_7 : decode cX5_allDebts 7 = .ok (.if_icmp .ge 18, 3) := by decide +kernel
theorem dX5_allDebts_10 : decode cX5_allDebts 10 = .ok (.iload_n 1, 1) := by decide +kernel
theorem dX5_allDebts_11 : decode cX5_allDebts 11 = .ok (.aload_n 0, 1) := by decide +kernel
theorem dX5_allDebts_12 : decode cX5_allDebts 12 = .ok (.getfield 21, 3) := by decide +kernel
theorem dX5_allDebts_15 : decode cX5_allDebts 15 = .ok (.iload_n 2, 1) := by decide +kernel
theorem dX5_allDebts_16 : decode cX5_allDebts 16 = .ok (.iaload, 1) := by decide +kernel
theorem dX5_allDebts_17 : decode cX5_allDebts 17 = .ok (.iadd, 1) := by decide +kernel
theorem dX5_allDebts_18 : decode cX5_allDebts 18 = .ok (.istore_n 1, 1) := by decide +kernel
theorem dX5_allDebts_19 : decode cX5_allDebts 19 = .ok (.iinc 2 1, 3) := by decide +kernel
theorem dX5_allDebts_22 : decode cX5_allDebts 22 = .ok (.goto (-18), 3) := by decide +kernel
theorem dX5_allDebts_25 : decode cX5_allDebts 25 = .ok (.iload_n 1, 1) := by decide +kernel
theorem dX5_allDebts_26 : decode cX5_allDebts 26 = .ok (.ireturn, 1) := by decide +kernel
set_option maxRecDepth 20000 in
theorem ggX6_init_X5_init : GoodIn wsX6_init wsX5_init := goodIn_r _ [10, 11, 2, 3, 12, 13, 14, 15, 16, 17, 18, 19, 20, 23, 24, 25, 26, 27] (by decide +kernel) (by decide +kernel)
set_option maxRecDepth 20000 in
theorem gX6_init_X5_init : GoodIn wsX6_init (wsX5_init) := ggX6_init_X5_init
theorem dX6_init_0 : decode cX6_init 0 = .ok (.aload_n 0, 1) := by decide +kernel
theorem dX6_init_1 : decode cX6_init 1 = .ok (.invokespecial 3, 3) := by decide +kernel
theorem dX6_init_4 : decode cX6_init 4 = .ok (.aload_n 0, 1) := by decide +kernel
theorem dX6_init_5 : decode cX6_init 5 = .ok (.bipush 10, 2) := by decide +kernel
theorem dX6_init_7 : decode cX6_init 7 = .ok (.anewarray 9, 3) := by decide +kernel
theorem dX6_init_10 : decode cX6_init 10 = .ok (.putfield 11, 3) := by decide +kernel
theorem dX6_init_13 : decode cX6_init 13 = .ok (.iconst 0, 1) := by decide +kernel
theorem dX6_init_14 : decode cX6_init 14 = .ok (.istore_n 1, 1) := by decide +kernel
theorem dX6_init_15 : decode cX6_init 15 = .ok (.iload_n 1, 1) := by decide +kernel
theorem dX6_init_16 : decode cX6_init 16 = .ok (.bipush 10, 2) := by decide +kernel
theorem dX6_init_18 : decode cX6_init 18 = .ok (.if_icmp .ge 22, 3) := by decide +kernel
theorem dX6_init_21 : decode cX6_init 21 = .ok (.aload_n 0, 1) := by decide +kernel
theorem dX6_init_22 : decode cX6_init 22 = .ok (.getfield 11, 3) := by decide +kernel
theorem dX6_init_25 : decode cX6_init 25 = .ok (.iload_n 1, 1) := by decide +kernel
theorem dX6_init_26 : decode cX6_init 26 = .ok (.new 9, 3) := by decide +kernel
theorem dX6_init_29 : decode cX6_init 29 = .ok (.dup, 1) := by decide +kernel
theorem dX6_init_30 : decode cX6_init 30 = .ok (.invokespecial 17, 3) := by decide +kernel
theorem dX6_init_33 : decode cX6_init 33 = .ok (.aastore, 1) := by decide +kernel
theorem dX6_init_34 : decode cX6_init 34 = .ok (.iinc 1 1, 3) := by decide +kernel
theorem dX6_init_37 : decode cX6_init 37 = .ok (.goto (-22), 3) := by decide +kernel
theorem dX6_init_40 : decode cX6_init 40 = .ok (.return_, 1) := by decide +kernel
set_option maxRecDepth 20000 in
theorem ggX6_push_X6_loseOldest : GoodIn wsX6_push wsX6_loseOldest := goodIn_r _ [7, 2, 1, 22, 23] (by decide +kernel) (by decide +kernel)
set_option maxRecDepth 20000 in
theorem gX6_push_X6_loseOldest : GoodIn wsX6_push (wsV RX6 22 RX6 yX6_loseOldest wsX6_loseOldest) := goodIn_app (goodIn_of _ (by decide +kernel)) ggX6_push_X6_loseOldest
set_option maxRecDepth 20000 in
theorem ggX6_push_X5_copyFrom : GoodIn wsX6_push wsX5_copyFrom := goodIn_r _ [12, 13, 14, 15, 16, 17, 18, 19, 20, 21, 24, 25, 26, 27, 28] (by decide +kernel) (by decide +kernel)
set_option maxRecDepth 20000 in
theorem gX6_push_X5_copyFrom : GoodIn wsX6_push (wsV RX6 25 RX5 yX5_copyFrom wsX5_copyFrom) := goodIn_app (goodIn_of _ (by decide +kernel)) ggX6_push_X5_copyFrom
theorem dX6_push_0 : decode cX6_push 0 = .ok (.aload_n 0, 1) := by decide +kernel
theorem dX6_push_1 : decode cX6_push 1 = .ok (.getfield 18, 3) := by decide +kernel
theorem dX6_push_4 : decode cX6_push 4 = .ok (.bipush 10, 2) := by decide +kernel
theorem dX6_push_6 : decode cX6_push 6 = .ok (.if_icmp .lt 7, 3) := by decide +kernel
theorem dX6_push_9 : decode cX6_push 9 = .ok (.aload_n 0, 1) := by decide +kernel
theorem dX6_push_10 : decode cX6_push 10 = .ok (.invokevirtual 22, 3) := by decide +kernel
theorem dX6_push_13 : decode cX6_push 13 = .ok (.aload_n 0, 1) := by decide +kernel
theorem dX6_push_14 : decode cX6_push 14 = .ok (.getfield 11, 3) := by decide +kernel
theorem dX6_push_17 : decode cX6_push 17 = .ok (.aload_n 0, 1) := by decide +kernel
theorem dX6_push_18 : decode cX6_push 18 = .ok (.getfield 18, 3) := by decide +kernel
theorem dX6_push_21 : decode cX6_push 21 = .ok (.aaload, 1) := by decide +kernel
theorem dX6_push_22 : decode cX6_push 22 = .ok (.aload_n 1, 1) := by decide +kernel
theorem dX6_push_23 : decode cX6_push 23 = .ok (.invokevirtual 25, 3) := by decide +kernel
theorem dX6_push_26 : decode cX6_push 26 = .ok (.aload_n 0, 1) := by decide +kernel
theorem dX6_push_27 : decode cX6_push 27 = .ok (.dup, 1) := by decide +kernel
theorem dX6_push_28 : decode cX6_push 28 = .ok (.getfield 18, 3) := by decide +kernel
theorem dX6_push_31 : decode cX6_push 31 = .ok (.iconst 1, 1) := by decide +kernel
theorem dX6_push_32 : decode cX6_push 32 = .ok (.iadd, 1) := by decide +kernel
theorem dX6_push_33 : decode cX6_push 33 = .ok (.putfield 18, 3) := by decide +kernel
theorem dX6_push_36 : decode cX6_push 36 = .ok (.return_, 1) := by decide +kernel
set_option maxRecDepth 20000 in
theorem ggX6_pop_X5_copyFrom : GoodIn wsX6_pop wsX5_copyFrom := goodIn_r _ [7, 8, 9, 10, 11, 12, 13, 14, 15, 16, 19, 20, 21, 22, 23] (by decide +kernel) (by decide +kernel)
set_option maxRecDepth 20000 in
theorem gX6_pop_X5_copyFrom : GoodIn wsX6_pop (wsV RX6 25 RX5 yX5_copyFrom wsX5_copyFrom) := goodIn_app (goodIn_of _ (by decide +kernel)) ggX6_pop_X5_copyFrom
theorem dX6_pop_0 : decode cX6_pop 0 = .ok (.aload_n 0, 1) := by decide +kernel
theorem dX6_pop_1 : decode cX6_pop 1 = .ok (.getfield 18, 3) := by decide +kernel
theorem dX6_pop_4 : decode cX6_pop 4 = .ok (.ifCond .le 26, 3) := by decide +kernel
theorem dX6_pop_7 : decode cX6_pop 7 = .ok (.aload_n 0, 1) := by decide +kernel
theorem dX6_pop_8 : decode cX6_pop 8 = .ok (.dup, 1) := by decide +kernel
theorem dX6_pop_9 : decode cX6_pop 9 = .ok (.getfield 18, 3) := by decide +kernel
theorem dX6_pop_12 : decode cX6_pop 12 = .ok (.iconst 1, 1) := by decide +kernel
theorem dX6_pop_13 : decode cX6_pop 13 = .ok (.isub, 1) := by decide +kernel
theorem dX6_pop_14 : decode cX6_pop 14 = .ok (.putfield 18, 3) := by decide +kernel
theorem dX6_pop_17 : decode cX6_pop 17 = .ok (.aload_n 1, 1) := by decide +kernel
theorem dX6_pop_18 : decode cX6_pop 18 = .ok (.aload_n 0, 1) := by decide +kernel
theorem dX6_pop_19 : decode cX6_pop 19 = .ok (.getfield 11, 3) := by decide +kernel
theorem dX6_pop_22 : decode cX6_pop 22 = .ok (.aload_n 0, 1) := by decide +kernel
theorem dX6_pop_23 : decode cX6_pop 23 = .ok (.getfield 18, 3) := by decide +kernel
theorem dX6_pop_26 : decode cX6_pop 26 = .ok (.aaload, 1) := by decide +kernel
theorem dX6_pop_27 : decode cX6_pop 27 = .ok (.invokevirtual 25, 3) := by decide +kernel
theorem dX6_pop_30 : decode cX6_pop 30 = .ok (.return_, 1) := by decide +kernel
set_option maxRecDepth 20000 in
theorem ggX6_copyFrom_X5_copyFrom : GoodIn wsX6_copyFrom wsX5_copyFrom := goodIn_r _ [7, 8, 9, 10, 11, 12, 13, 14, 15, 16, 19, 20, 21, 22, 23] (by decide +kernel) (by decide +kernel)
set_option maxRecDepth 20000 in
theorem gX6_copyFrom_X5_copyFrom : GoodIn wsX6_copyFrom (wsV RX6 25 RX5 yX5_copyFrom wsX5_copyFrom) := goodIn_app (goodIn_of _ (by decide +kernel)) ggX6_copyFrom_X5_copyFrom
theorem dX6_copyFrom_0 : decode cX6_copyFrom 0 = .ok (.aload_n 0, 1) := by decide +kernel
theorem dX6_copyFrom_1 : decode cX6_copyFrom 1 = .ok (.aload_n 1, 1) := by decide +kernel
theorem dX6_copyFrom_2 : decode cX6_copyFrom 2 = .ok (.getfield 18, 3) := by decide +kernel
theorem dX6_copyFrom_5 : decode cX6_copyFrom 5 = .ok (.putfield 18, 3) := by decide +kernel
theorem dX6_copyFrom_8 : decode cX6_copyFrom 8 = .ok (.iconst 0, 1) := by decide +kernel
theorem dX6_copyFrom_9 : decode cX6_copyFrom 9 = .ok (.istore_n 2, 1) := by decide +kernel
theorem dX6_copyFrom_10 : decode cX6_copyFrom 10 = .ok (.iload_n 2, 1) := by decide +kernel
theorem dX6_copyFrom_11 : decode cX6_copyFrom 11 = .ok (.aload_n 0, 1) := by decide +kernel
theorem dX6_copyFrom_12 : decode cX6_copyFrom 12 = .ok (.getfield 18, 3) := by decide +kernel
theorem dX6_copyFrom_15 : decode cX6_copyFrom 15 = .ok (.if_icmp .ge 24, 3) := by decide +kernel
theorem dX6_copyFrom_18 : decode cX6_copyFrom 18 = .ok (.aload_n 0, 1) := by decide +kernel
theorem dX6_copyFrom_19 : decode cX6_copyFrom 19 = .ok (.getfield 11, 3) := by decide +kernel
theorem dX6_copyFrom_22 : decode cX6_copyFrom 22 = .ok (.iload_n 2, 1) := by decide +kernel
theorem dX6_copyFrom_23 : decode cX6_copyFrom 23 = .ok (.aaload, 1) := by decide +kernel
theorem dX6_copyFrom_24 : decode cX6_copyFrom 24 = .ok (.aload_n 1, 1) := by decide +kernel
theorem dX6_copyFrom_25 : decode cX6_copyFrom 25 = .ok (.getfield 11, 3) := by decide +kernel
theorem dX6_copyFrom_28 : decode cX6_copyFrom 28 = .ok (.iload_n 2, 1) := by decide +kernel
theorem dX6_copyFrom_29 : decode cX6_copyFrom 29 = .ok (.aaload, 1) := by decide +kernel
theorem dX6_copyFrom_30 : decode cX6_copyFrom 30 = .ok (.invokevirtual 25, 3) := by decide +kernel
theorem dX6_copyFrom_33 : decode cX6_copyFrom 33 = .ok (.iinc 2 1, 3) := by decide +kernel
theorem dX6_copyFrom_36 : decode cX6_copyFrom 36 = .ok (.goto (-26), 3) := by decide +kernel
theorem dX6_copyFrom_39 : decode cX6_copyFrom 39 = .ok (.return_, 1) := by decide +kernel
theorem dX6_loseOldest_0 : decode cX6_loseOldest 0 = .ok (.aload_n 0, 1) := by decide +kernel
theorem dX6_loseOldest_1 : decode cX6_loseOldest 1 = .ok (.getfield 11, 3) := by decide +kernel
theorem dX6_loseOldest_4 : decode cX6_loseOldest 4 = .ok (.iconst 0, 1) := by decide +kernel
theorem dX6_loseOldest_5 : decode cX6_loseOldest 5 = .ok (.aaload, 1) := by decide +kernel
theorem dX6_loseOldest_6 : decode cX6_loseOldest 6 = .ok (.astore_n 1, 1) := by decide +kernel
theorem dX6_loseOldest_7 : decode cX6_loseOldest 7 = .ok (.iconst 1, 1) := by decide +kernel
theorem dX6_loseOldest_8 : decode cX6_loseOldest 8 = .ok (.istore_n 2, 1) := by decide +kernel
theorem dX6_loseOldest_9 : decode cX6_loseOldest 9 = .ok (.iload_n 2, 1) := by decide +kernel
theorem dX6_loseOldest_10 : decode cX6_loseOldest 10 = .ok (.bipush 10, 2) := by decide +kernel
theorem dX6_loseOldest_12 : decode cX6_loseOldest 12 = .ok (.if_icmp .ge 23, 3) := by decide +kernel
theorem dX6_loseOldest_15 : decode cX6_loseOldest 15 = .ok (.aload_n 0, 1) := by decide +kernel
theorem dX6_loseOldest_16 : decode cX6_loseOldest 16 = .ok (.getfield 11, 3) := by decide +kernel
theorem dX6_loseOldest_19 : decode cX6_loseOldest 19 = .ok (.iload_n 2, 1) := by decide +kernel
theorem dX6_loseOldest_20 : decode cX6_loseOldest 20 = .ok (.iconst 1, 1) := by decide +kernel
theorem dX6_loseOldest_21 : decode cX6_loseOldest 21 = .ok (.isub, 1) := by decide +kernel
theorem dX6_loseOldest_22 : decode cX6_loseOldest 22 = .ok (.aload_n 0, 1) := by decide +kernel
theorem dX6_loseOldest_23 : decode cX6_loseOldest 23 = .ok (.getfield 11, 3) := by decide +kernel
theorem dX6_loseOldest_26 : decode cX6_loseOldest 26 = .ok (.iload_n 2, 1) := by decide +kernel
theorem dX6_loseOldest_27 : decode cX6_loseOldest 27 = .ok (.aaload, 1) := by decide +kernel
theorem dX6_loseOldest_28 : decode cX6_loseOldest 28 = .ok (.aastore, 1) := by decide +kernel
theorem dX6_loseOldest_29 : decode cX6_loseOldest 29 = .ok (.iinc 2 1, 3) := by decide +kernel
theorem dX6_loseOldest_32 : decode cX6_loseOldest 32 = .ok (.goto (-23), 3) := by decide +kernel
theorem dX6_loseOldest_35 : decode cX6_loseOldest 35 = .ok (.aload_n 0, 1) := by decide +kernel
theorem dX6_loseOldest_36 : decode cX6_loseOldest 36 = .ok (.getfield 11, 3) := by decide +kernel
theorem dX6_loseOldest_39 : decode cX6_loseOldest 39 = .ok (.bipush 9, 2) := by decide +kernel
theorem dX6_loseOldest_41 : decode cX6_loseOldest 41 = .ok (.aload_n 1, 1) := by decide +kernel
theorem dX6_loseOldest_42 : decode cX6_loseOldest 42 = .ok (.aastore, 1) := by decide +kernel
theorem dX6_loseOldest_43 : decode cX6_loseOldest 43 = .ok (.aload_n 0, 1) := by decide +kernel
theorem dX6_loseOldest_44 : decode cX6_loseOldest 44 = .ok (.bipush 9, 2) := by decide +kernel
theorem dX6_loseOldest_46 : decode cX6_loseOldest 46 = .ok (.putfield 18, 3) := by decide +kernel
theorem dX6_loseOldest_49 : decode cX6_loseOldest 49 = .ok (.return_, 1) := by decide +kernel
theorem dX7_init_0 : decode cX7_init 0 = .ok (.aload_n 0, 1) := by decide +kernel
theorem dX7_init_1 : decode cX7_init 1 = .ok (.invokespecial 3, 3) := by decide +kernel
theorem dX7_init_4 : decode cX7_init 4 = .ok (.aload_n 0, 1) := by decide +kernel
theorem dX7_init_5 : decode cX7_init 5 = .ok (.sipush 200, 3) := by decide +kernel
theorem dX7_init_8 : decode cX7_init 8 = .ok (.newarray .int, 2) := by decide +kernel
theorem dX7_init_10 : decode cX7_init 10 = .ok (.putfield 9, 3) := by decide +kernel
theorem dX7_init_13 : decode cX7_init 13 = .ok (.return_, 1) := by decide +kernel
set_option maxRecDepth 20000 in
theorem ggX7_readInto_X7_step : GoodIn wsX7_readInto wsX7_step := goodIn_r _ [12, 4, 5, 13, 7, 6, 14, 15, 16, 11, 17, 18, 19, 20, 21, 67, 68, 69, 70, 71, 72] (by decide +kernel) (by decide +kernel)
set_option maxRecDepth 20000 in
theorem gX7_readInto_X7_step : GoodIn wsX7_readInto (wsV RX7 33 RX7 yX7_step wsX7_step) := goodIn_app (goodIn_of _ (by decide +kernel)) ggX7_readInto_X7_step
set_option maxRecDepth 20000 in
theorem ggX7_readInto_X7_readItem : GoodIn wsX7_readInto wsX7_readItem := goodIn_r _ [25, 6, 14, 26, 27, 28, 11, 29, 1, 30, 31, 32, 33, 34, 8, 9, 10, 12, 4, 5, 13, 7, 15, 16, 17, 18, 19, 20, 21, 35, 36, 37, 38, 39, 40, 41, 42, 2, 43, 44, 45, 46, 47, 48, 49, 50, 51, 52, 53, 54, 55, 3, 56, 67, 68, 69, 70, 71, 72, 57, 58, 59, 60, 61, 62, 63, 64, 65, 66] (by decide +kernel) (by decide +kernel)
set_option maxRecDepth 20000 in
theorem gX7_readInto_X7_readItem : GoodIn wsX7_readInto (wsV RX7 39 RX7 yX7_readItem wsX7_readItem) := goodIn_app (goodIn_of _ (by decide +kernel)) ggX7_readInto_X7_readItem
theorem dX7_readInto_0 : decode cX7_readInto 0 = .ok (.aload_n 1, 1) := by decide +kernel
theorem dX7_readInto_1 : decode cX7_readInto 1 = .ok (.iconst 0, 1) := by decide +kernel
theorem dX7_readInto_2 : decode cX7_readInto 2 = .ok (.putfield 15, 3) := by decide +kernel
theorem dX7_readInto_5 : decode cX7_readInto 5 = .ok (.aload_n 1, 1) := by decide +kernel
theorem dX7_readInto_6 : decode cX7_readInto 6 = .ok (.iconst 0, 1) := by decide +kernel
theorem dX7_readInto_7 : decode cX7_readInto 7 = .ok (.putfield 21, 3) := by decide +kernel
theorem dX7_readInto_10 : decode cX7_readInto 10 = .ok (.aload_n 1, 1) := by decide +kernel
theorem dX7_readInto_11 : decode cX7_readInto 11 = .ok (.iconst 0, 1) := by decide +kernel
theorem dX7_readInto_12 : decode cX7_readInto 12 = .ok (.putfield 24, 3) := by decide +kernel
theorem dX7_readInto_15 : decode cX7_readInto 15 = .ok (.aload_n 0, 1) := by decide +kernel
theorem dX7_readInto_16 : decode cX7_readInto 16 = .ok (.iconst 0, 1) := by decide +kernel
theorem dX7_readInto_17 : decode cX7_readInto 17 = .ok (.putfield 27, 3) := by decide +kernel
theorem dX7_readInto_20 : decode cX7_readInto 20 = .ok (.iconst 0, 1) := by decide +kernel
theorem dX7_readInto_21 : decode cX7_readInto 21 = .ok (.istore_n 2, 1) := by decide +kernel
theorem dX7_readInto_22 : decode cX7_readInto 22 = .ok (.iload_n 2, 1) := by decide +kernel
theorem dX7_readInto_23 : decode cX7_readInto 23 = .ok (.aload_n 0, 1) := by decide +kernel
theorem dX7_readInto_24 : decode cX7_readInto 24 = .ok (.getfield 30, 3) := by decide +kernel
theorem dX7_readInto_27 : decode cX7_readInto 27 = .ok (.if_icmp .gt 33, 3) := by decide +kernel
theorem dX7_readInto_30 : decode cX7_readInto 30 = .ok (.aload_n 0, 1) := by decide +kernel
theorem dX7_readInto_31 : decode cX7_readInto 31 = .ok (.invokevirtual 33, 3) := by decide +kernel
theorem dX7_readInto_34 : decode cX7_readInto 34 = .ok (.aload_n 0, 1) := by decide +kernel
theorem dX7_readInto_35 : decode cX7_readInto 35 = .ok (.getfield 36, 3) := by decide +kernel
theorem dX7_readInto_38 : decode cX7_readInto 38 = .ok (.ifCond .ne 5, 3) := by decide +kernel
theorem dX7_readInto_41 : decode cX7_readInto 41 = .ok (.iload_n 2, 1) := by decide +kernel
theorem dX7_readInto_42 : decode cX7_readInto 42 = .ok (.ireturn, 1) := by decide +kernel
theorem dX7_readInto_43 : decode cX7_readInto 43 = .ok (.aload_n 0, 1) := by decide +kernel
theorem dX7_readInto_44 : decode cX7_readInto 44 = .ok (.aload_n 1, 1) := by decide +kernel
theorem dX7_readInto_45 : decode cX7_readInto 45 = .ok (.invokevirtual 39, 3) := by decide +kernel
theorem dX7_readInto_48 : decode cX7_readInto 48 = .ok (.ifCond .ne 6, 3) := by decide +kernel
theorem dX7_readInto_51 : decode cX7_readInto 51 = .ok (.goto 9, 3) := by decide +kernel
theorem dX7_readInto_54 : decode cX7_readInto 54 = .ok (.iinc 2 1, 3) := by decide +kernel
theorem dX7_readInto_57 : decode cX7_readInto 57 = .ok (.goto (-35), 3) := by decide +kernel
theorem dX7_readInto_60 : decode cX7_readInto 60 = .ok (.bipush (-10), 2) := by decide +kernel
theorem dX7_readInto_62 : decode cX7_readInto 62 = .ok (.aload_n 0, 1) := by decide +kernel
theorem dX7_readInto_63 : decode cX7_readInto 63 = .ok (.getfield 43, 3) := by decide +kernel
theorem dX7_readInto_66 : decode cX7_readInto 66 = .ok (.isub, 1) := by decide +kernel
theorem dX7_readInto_67 : decode cX7_readInto 67 = .ok (.ireturn, 1) := by decide +kernel
set_option maxRecDepth 20000 in
theorem ggX7_readItem_X7_readRoom : GoodIn wsX7_readItem wsX7_readRoom := goodIn_r _ [7, 8, 9, 2, 10, 11, 12, 6, 13, 1, 14, 15, 16, 17, 18, 19, 20, 21, 22, 23, 24, 25, 26, 27, 28, 59, 60, 61, 62, 63, 64, 65, 66, 67, 68, 53, 54, 55, 56, 57, 58] (by decide +kernel) (by decide +kernel)
set_option maxRecDepth 20000 in
theorem gX7_readItem_X7_readRoom : GoodIn wsX7_readItem (wsV RX7 49 RX7 yX7_readRoom wsX7_readRoom) := goodIn_app (goodIn_of _ (by decide +kernel)) ggX7_readItem_X7_readRoom
set_option maxRecDepth 20000 in
theorem ggX7_readItem_X7_semicolon : GoodIn wsX7_readItem wsX7_semicolon := goodIn_r _ [32, 1, 14, 15, 16, 6, 17, 18, 19, 20, 21, 2, 22, 23, 24, 25, 26, 27, 28, 53, 54, 55, 56, 57, 58] (by decide +kernel) (by decide +kernel)
set_option maxRecDepth 20000 in
theorem gX7_readItem_X7_semicolon : GoodIn wsX7_readItem (wsV RX7 52 RX7 yX7_semicolon wsX7_semicolon) := goodIn_app (goodIn_of _ (by decide +kernel)) ggX7_readItem_X7_semicolon
set_option maxRecDepth 20000 in
theorem ggX7_readItem_X7_readTenant : GoodIn wsX7_readItem wsX7_readTenant := goodIn_r _ [36, 37, 38, 2, 39, 40, 41, 42, 10, 11, 12, 6, 13, 1, 14, 15, 16, 17, 18, 19, 20, 21, 22, 23, 24, 25, 26, 27, 28, 59, 60, 61, 62, 63, 64, 65, 66, 67, 68, 53, 54, 55, 56, 57, 58] (by decide +kernel) (by decide +kernel)
set_option maxRecDepth 20000 in
theorem gX7_readItem_X7_readTenant : GoodIn wsX7_readItem (wsV RX7 56 RX7 yX7_readTenant wsX7_readTenant) := goodIn_app (goodIn_of _ (by decide +kernel)) ggX7_readItem_X7_readTenant
set_option maxRecDepth 20000 in
theorem ggX7_readItem_X7_readHearing : GoodIn wsX7_readItem wsX7_readHearing := goodIn_r _ [46, 37, 2, 42, 10, 11, 12, 6, 13, 1, 14, 15, 16, 17, 18, 19, 20, 21, 22, 23, 24, 25, 26, 27, 28, 59, 60, 61, 62, 63, 64, 65, 66, 67, 68, 53, 54, 55, 56, 57, 58] (by decide +kernel) (by decide +kernel)
set_option maxRecDepth 20000 in
theorem gX7_readItem_X7_readHearing : GoodIn wsX7_readItem (wsV RX7 59 RX7 yX7_readHearing wsX7_readHearing) := goodIn_app (goodIn_of _ (by decide +kernel)) ggX7_readItem_X7_readHearing
set_option maxRecDepth 20000 in
theorem ggX7_readItem_X7_readChair : GoodIn wsX7_readItem wsX7_readChair := goodIn_r _ [50, 51, 52, 2, 10, 11, 12, 6, 13, 1, 14, 15, 16, 17, 18, 19, 20, 21, 22, 23, 24, 25, 26, 27, 28, 59, 60, 61, 62, 63, 64, 65, 66, 67, 68, 53, 54, 55, 56, 57, 58] (by decide +kernel) (by decide +kernel)
set_option maxRecDepth 20000 in
theorem gX7_readItem_X7_readChair : GoodIn wsX7_readItem (wsV RX7 62 RX7 yX7_readChair wsX7_readChair) := goodIn_app (goodIn_of _ (by decide +kernel)) ggX7_readItem_X7_readChair
theorem dX7_readItem_0 : decode cX7_readItem 0 = .ok (.aload_n 0, 1) := by decide +kernel
theorem dX7_readItem_1 : decode cX7_readItem 1 = .ok (.getfield 36, 3) := by decide +kernel
theorem dX7_readItem_4 : decode cX7_readItem 4 = .ok (.iconst 1, 1) := by decide +kernel
theorem dX7_readItem_5 : decode cX7_readItem 5 = .ok (.if_icmp .eq 5, 3) := by decide +kernel
theorem dX7_readItem_8 : decode cX7_readItem 8 = .ok (.iconst 0, 1) := by decide +kernel
theorem dX7_readItem_9 : decode cX7_readItem 9 = .ok (.ireturn, 1) := by decide +kernel
theorem dX7_readItem_10 : decode cX7_readItem 10 = .ok (.aload_n 0, 1) := by decide +kernel
theorem dX7_readItem_11 : decode cX7_readItem 11 = .ok (.getfield 46, 3) := by decide +kernel
theorem dX7_readItem_14 : decode cX7_readItem 14 = .ok (.lookupswitch 126 #[(99, 105), (104, 84), (114, 42), (116, 63)], 42) := by decide +kernel
theorem dX7_readItem_56 : decode cX7_readItem 56 = .ok (.aload_n 0, 1) := by decide +kernel
theorem dX7_readItem_57 : decode cX7_readItem 57 = .ok (.aload_n 1, 1) := by decide +kernel
theorem dX7_readItem_58 : decode cX7_readItem 58 = .ok (.invokevirtual 49, 3) := by decide +kernel
theorem dX7_readItem_61 : decode cX7_readItem 61 = .ok (.ifCond .eq 14, 3) := by decide +kernel
theorem dX7_readItem_64 : decode cX7_readItem 64 = .ok (.aload_n 0, 1) := by decide +kernel
theorem dX7_readItem_65 : decode cX7_readItem 65 = .ok (.invokevirtual 52, 3) := by decide +kernel
theorem dX7_readItem_68 : decode cX7_readItem 68 = .ok (.ifCond .eq 7, 3) := by decide +kernel
theorem dX7_readItem_71 : decode cX7_readItem 71 = .ok (.iconst 1, 1) := by decide +kernel
theorem dX7_readItem_72 : decode cX7_readItem 72 = .ok (.goto 4, 3) := by decide +kernel
theorem dX7_readItem_75 : decode cX7_readItem 75 = .ok (.iconst 0, 1) := by decide +kernel
theorem dX7_readItem_76 : decode cX7_readItem 76 = .ok (.ireturn, 1) := by decide +kernel
theorem dX7_readItem_77 : decode cX7_readItem 77 = .ok (.aload_n 0, 1) := by decide +kernel
theorem dX7_readItem_78 : decode cX7_readItem 78 = .ok (.aload_n 1, 1) := by decide +kernel
theorem dX7_readItem_79 : decode cX7_readItem 79 = .ok (.invokevirtual 56, 3) := by decide +kernel
theorem dX7_readItem_82 : decode cX7_readItem 82 = .ok (.ifCond .eq 14, 3) := by decide +kernel
theorem dX7_readItem_85 : decode cX7_readItem 85 = .ok (.aload_n 0, 1) := by decide +kernel
theorem dX7_readItem_86 : decode cX7_readItem 86 = .ok (.invokevirtual 52, 3) := by decide +kernel
theorem dX7_readItem_89 : decode cX7_readItem 89 = .ok (.ifCond .eq 7, 3) := by decide +kernel
theorem dX7_readItem_92 : decode cX7_readItem 92 = .ok (.iconst 1, 1) := by decide +kernel
theorem dX7_readItem_93 : decode cX7_readItem 93 = .ok (.goto 4, 3) := by decide +kernel
theorem dX7_readItem_96 : decode cX7_readItem 96 = .ok (.iconst 0, 1) := by decide +kernel
theorem dX7_readItem_97 : decode cX7_readItem 97 = .ok (.ireturn, 1) := by decide +kernel
theorem dX7_readItem_98 : decode cX7_readItem 98 = .ok (.aload_n 0, 1) := by decide +kernel
theorem dX7_readItem_99 : decode cX7_readItem 99 = .ok (.aload_n 1, 1) := by decide +kernel
theorem dX7_readItem_100 : decode cX7_readItem 100 = .ok (.invokevirtual 59, 3) := by decide +kernel
theorem dX7_readItem_103 : decode cX7_readItem 103 = .ok (.ifCond .eq 14, 3) := by decide +kernel
theorem dX7_readItem_106 : decode cX7_readItem 106 = .ok (.aload_n 0, 1) := by decide +kernel
theorem dX7_readItem_107 : decode cX7_readItem 107 = .ok (.invokevirtual 52, 3) := by decide +kernel
theorem dX7_readItem_110 : decode cX7_readItem 110 = .ok (.ifCond .eq 7, 3) := by decide +kernel
theorem dX7_readItem_113 : decode cX7_readItem 113 = .ok (.iconst 1, 1) := by decide +kernel
theorem dX7_readItem_114 : decode cX7_readItem 114 = .ok (.goto 4, 3) := by decide +kernel
theorem dX7_readItem_117 : decode cX7_readItem 117 = .ok (.iconst 0, 1) := by decide +kernel
theorem dX7_readItem_118 : decode cX7_readItem 118 = .ok (.ireturn, 1) := by decide +kernel
theorem dX7_readItem_119 : decode cX7_readItem 119 = .ok (.aload_n 0, 1) := by decide +kernel
theorem dX7_readItem_120 : decode cX7_readItem 120 = .ok (.aload_n 1, 1) := by decide +kernel
theorem dX7_readItem_121 : decode cX7_readItem 121 = .ok (.invokevirtual 62, 3) := by decide +kernel
theorem dX7_readItem_124 : decode cX7_readItem 124 = .ok (.ifCond .eq 14, 3) := by decide +kernel
theorem dX7_readItem_127 : decode cX7_readItem 127 = .ok (.aload_n 0, 1) := by decide +kernel
theorem dX7_readItem_128 : decode cX7_readItem 128 = .ok (.invokevirtual 52, 3) := by decide +kernel
theorem dX7_readItem_131 : decode cX7_readItem 131 = .ok (.ifCond .eq 7, 3) := by decide +kernel
theorem dX7_readItem_134 : decode cX7_readItem 134 = .ok (.iconst 1, 1) := by decide +kernel
theorem dX7_readItem_135 : decode cX7_readItem 135 = .ok (.goto 4, 3) := by decide +kernel
theorem dX7_readItem_138 : decode cX7_readItem 138 = .ok (.iconst 0, 1) := by decide +kernel
theorem dX7_readItem_139 : decode cX7_readItem 139 = .ok (.ireturn, 1) := by decide +kernel
theorem dX7_readItem_140 : decode cX7_readItem 140 = .ok (.iconst 0, 1) := by decide +kernel
theorem dX7_readItem_141 : decode cX7_readItem 141 = .ok (.ireturn, 1) := by decide +kernel
set_option maxRecDepth 20000 in
theorem ggX7_readRoom_X7_number : GoodIn wsX7_readRoom wsX7_number := goodIn_r _ [8, 9, 3, 10, 11, 12, 7, 13, 14, 15, 16, 17, 18, 19, 20, 21, 22, 23, 24, 35, 36, 37, 38, 39, 40] (by decide +kernel) (by decide +kernel)
set_option maxRecDepth 20000 in
theorem gX7_readRoom_X7_number : GoodIn wsX7_readRoom (wsV RX7 65 RX7 yX7_number wsX7_number) := goodIn_app (goodIn_of _ (by decide +kernel)) ggX7_readRoom_X7_number
theorem dX7_readRoom_0 : decode cX7_readRoom 0 = .ok (.aload_n 1, 1) := by decide +kernel
theorem dX7_readRoom_1 : decode cX7_readRoom 1 = .ok (.getfield 15, 3) := by decide +kernel
theorem dX7_readRoom_4 : decode cX7_readRoom 4 = .ok (.istore_n 2, 1) := by decide +kernel
theorem dX7_readRoom_5 : decode cX7_readRoom 5 = .ok (.iload_n 2, 1) := by decide +kernel
theorem dX7_readRoom_6 : decode cX7_readRoom 6 = .ok (.bipush 6, 2) := by decide +kernel
theorem dX7_readRoom_8 : decode cX7_readRoom 8 = .ok (.if_icmp .ge 13, 3) := by decide +kernel
theorem dX7_readRoom_11 : decode cX7_readRoom 11 = .ok (.aload_n 0, 1) := by decide +kernel
theorem dX7_readRoom_12 : decode cX7_readRoom 12 = .ok (.iconst 0, 1) := by decide +kernel
theorem dX7_readRoom_13 : decode cX7_readRoom 13 = .ok (.bipush 24, 2) := by decide +kernel
theorem dX7_readRoom_15 : decode cX7_readRoom 15 = .ok (.invokevirtual 65, 3) := by decide +kernel
theorem dX7_readRoom_18 : decode cX7_readRoom 18 = .ok (.ifCond .ne 5, 3) := by decide +kernel
theorem dX7_readRoom_21 : decode cX7_readRoom 21 = .ok (.iconst 0, 1) := by decide +kernel
theorem dX7_readRoom_22 : decode cX7_readRoom 22 = .ok (.ireturn, 1) := by decide +kernel
theorem dX7_readRoom_23 : decode cX7_readRoom 23 = .ok (.aload_n 1, 1) := by decide +kernel
theorem dX7_readRoom_24 : decode cX7_readRoom 24 = .ok (.getfield 69, 3) := by decide +kernel
theorem dX7_readRoom_27 : decode cX7_readRoom 27 = .ok (.iload_n 2, 1) := by decide +kernel
theorem dX7_readRoom_28 : decode cX7_readRoom 28 = .ok (.aload_n 0, 1) := by decide +kernel
theorem dX7_readRoom_29 : decode cX7_readRoom 29 = .ok (.getfield 46, 3) := by decide +kernel
theorem dX7_readRoom_32 : decode cX7_readRoom 32 = .ok (.iastore, 1) := by decide +kernel
theorem dX7_readRoom_33 : decode cX7_readRoom 33 = .ok (.aload_n 1, 1) := by decide +kernel
theorem dX7_readRoom_34 : decode cX7_readRoom 34 = .ok (.iload_n 2, 1) := by decide +kernel
theorem dX7_readRoom_35 : decode cX7_readRoom 35 = .ok (.iconst 1, 1) := by decide +kernel
theorem dX7_readRoom_36 : decode cX7_readRoom 36 = .ok (.iadd, 1) := by decide +kernel
theorem dX7_readRoom_37 : decode cX7_readRoom 37 = .ok (.putfield 15, 3) := by decide +kernel
theorem dX7_readRoom_40 : decode cX7_readRoom 40 = .ok (.iconst 1, 1) := by decide +kernel
theorem dX7_readRoom_41 : decode cX7_readRoom 41 = .ok (.ireturn, 1) := by decide +kernel
set_option maxRecDepth 20000 in
theorem ggX7_readTenant_X7_number : GoodIn wsX7_readTenant wsX7_number := goodIn_r _ [12, 13, 3, 14, 15, 16, 11, 17, 18, 19, 20, 21, 22, 23, 24, 25, 26, 27, 28, 39, 40, 41, 42, 43, 44] (by decide +kernel) (by decide +kernel)
set_option maxRecDepth 20000 in
theorem gX7_readTenant_X7_number : GoodIn wsX7_readTenant (wsV RX7 65 RX7 yX7_number wsX7_number) := goodIn_app (goodIn_of _ (by decide +kernel)) ggX7_readTenant_X7_number
theorem dX7_readTenant_0 : decode cX7_readTenant 0 = .ok (.aload_n 1, 1) := by decide +kernel
theorem dX7_readTenant_1 : decode cX7_readTenant 1 = .ok (.getfield 21, 3) := by decide +kernel
theorem dX7_readTenant_4 : decode cX7_readTenant 4 = .ok (.istore_n 2, 1) := by decide +kernel
theorem dX7_readTenant_5 : decode cX7_readTenant 5 = .ok (.iload_n 2, 1) := by decide +kernel
theorem dX7_readTenant_6 : decode cX7_readTenant 6 = .ok (.bipush 6, 2) := by decide +kernel
theorem dX7_readTenant_8 : decode cX7_readTenant 8 = .ok (.if_icmp .ge 13, 3) := by decide +kernel
theorem dX7_readTenant_11 : decode cX7_readTenant 11 = .ok (.aload_n 0, 1) := by decide +kernel
theorem dX7_readTenant_12 : decode cX7_readTenant 12 = .ok (.iconst 0, 1) := by decide +kernel
theorem dX7_readTenant_13 : decode cX7_readTenant 13 = .ok (.bipush 12, 2) := by decide +kernel
theorem dX7_readTenant_15 : decode cX7_readTenant 15 = .ok (.invokevirtual 65, 3) := by decide +kernel
theorem dX7_readTenant_18 : decode cX7_readTenant 18 = .ok (.ifCond .ne 5, 3) := by decide +kernel
theorem dX7_readTenant_21 : decode cX7_readTenant 21 = .ok (.iconst 0, 1) := by decide +kernel
theorem dX7_readTenant_22 : decode cX7_readTenant 22 = .ok (.ireturn, 1) := by decide +kernel
theorem dX7_readTenant_23 : decode cX7_readTenant 23 = .ok (.aload_n 1, 1) := by decide +kernel
theorem dX7_readTenant_24 : decode cX7_readTenant 24 = .ok (.getfield 72, 3) := by decide +kernel
theorem dX7_readTenant_27 : decode cX7_readTenant 27 = .ok (.iload_n 2, 1) := by decide +kernel
theorem dX7_readTenant_28 : decode cX7_readTenant 28 = .ok (.aload_n 0, 1) := by decide +kernel
theorem dX7_readTenant_29 : decode cX7_readTenant 29 = .ok (.getfield 46, 3) := by decide +kernel
theorem dX7_readTenant_32 : decode cX7_readTenant 32 = .ok (.iastore, 1) := by decide +kernel
theorem dX7_readTenant_33 : decode cX7_readTenant 33 = .ok (.aload_n 0, 1) := by decide +kernel
theorem dX7_readTenant_34 : decode cX7_readTenant 34 = .ok (.iconst 0, 1) := by decide +kernel
theorem dX7_readTenant_35 : decode cX7_readTenant 35 = .ok (.bipush 12, 2) := by decide +kernel
theorem dX7_readTenant_37 : decode cX7_readTenant 37 = .ok (.invokevirtual 65, 3) := by decide +kernel
theorem dX7_readTenant_40 : decode cX7_readTenant 40 = .ok (.ifCond .ne 5, 3) := by decide +kernel
theorem dX7_readTenant_43 : decode cX7_readTenant 43 = .ok (.iconst 0, 1) := by decide +kernel
theorem dX7_readTenant_44 : decode cX7_readTenant 44 = .ok (.ireturn, 1) := by decide +kernel
theorem dX7_readTenant_45 : decode cX7_readTenant 45 = .ok (.aload_n 1, 1) := by decide +kernel
theorem dX7_readTenant_46 : decode cX7_readTenant 46 = .ok (.getfield 75, 3) := by decide +kernel
theorem dX7_readTenant_49 : decode cX7_readTenant 49 = .ok (.iload_n 2, 1) := by decide +kernel
theorem dX7_readTenant_50 : decode cX7_readTenant 50 = .ok (.aload_n 0, 1) := by decide +kernel
theorem dX7_readTenant_51 : decode cX7_readTenant 51 = .ok (.getfield 46, 3) := by decide +kernel
theorem dX7_readTenant_54 : decode cX7_readTenant 54 = .ok (.iastore, 1) := by decide +kernel
theorem dX7_readTenant_55 : decode cX7_readTenant 55 = .ok (.aload_n 0, 1) := by decide +kernel
theorem dX7_readTenant_56 : decode cX7_readTenant 56 = .ok (.iconst 0, 1) := by decide +kernel
theorem dX7_readTenant_57 : decode cX7_readTenant 57 = .ok (.bipush 9, 2) := by decide +kernel
theorem dX7_readTenant_59 : decode cX7_readTenant 59 = .ok (.invokevirtual 65, 3) := by decide +kernel
theorem dX7_readTenant_62 : decode cX7_readTenant 62 = .ok (.ifCond .ne 5, 3) := by decide +kernel
theorem dX7_readTenant_65 : decode cX7_readTenant 65 = .ok (.iconst 0, 1) := by decide +kernel
theorem dX7_readTenant_66 : decode cX7_readTenant 66 = .ok (.ireturn, 1) := by decide +kernel
theorem dX7_readTenant_67 : decode cX7_readTenant 67 = .ok (.aload_n 1, 1) := by decide +kernel
theorem dX7_readTenant_68 : decode cX7_readTenant 68 = .ok (.getfield 78, 3) := by decide +kernel
theorem dX7_readTenant_71 : decode cX7_readTenant 71 = .ok (.iload_n 2, 1) := by decide +kernel
theorem dX7_readTenant_72 : decode cX7_readTenant 72 = .ok (.aload_n 0, 1) := by decide +kernel
theorem dX7_readTenant_73 : decode cX7_readTenant 73 = .ok (.getfield 46, 3) := by decide +kernel
theorem dX7_readTenant_76 : decode cX7_readTenant 76 = .ok (.iastore, 1) := by decide +kernel
theorem dX7_readTenant_77 : decode cX7_readTenant 77 = .ok (.aload_n 0, 1) := by decide +kernel
theorem dX7_readTenant_78 : decode cX7_readTenant 78 = .ok (.iconst 1, 1) := by decide +kernel
theorem dX7_readTenant_79 : decode cX7_readTenant 79 = .ok (.bipush 9, 2) := by decide +kernel
theorem dX7_readTenant_81 : decode cX7_readTenant 81 = .ok (.invokevirtual 65, 3) := by decide +kernel
theorem dX7_readTenant_84 : decode cX7_readTenant 84 = .ok (.ifCond .ne 5, 3) := by decide +kernel
theorem dX7_readTenant_87 : decode cX7_readTenant 87 = .ok (.iconst 0, 1) := by decide +kernel
theorem dX7_readTenant_88 : decode cX7_readTenant 88 = .ok (.ireturn, 1) := by decide +kernel
theorem dX7_readTenant_89 : decode cX7_readTenant 89 = .ok (.aload_n 1, 1) := by decide +kernel
theorem dX7_readTenant_90 : decode cX7_readTenant 90 = .ok (.getfield 81, 3) := by decide +kernel
theorem dX7_readTenant_93 : decode cX7_readTenant 93 = .ok (.iload_n 2, 1) := by decide +kernel
theorem dX7_readTenant_94 : decode cX7_readTenant 94 = .ok (.aload_n 0, 1) := by decide +kernel
theorem dX7_readTenant_95 : decode cX7_readTenant 95 = .ok (.getfield 46, 3) := by decide +kernel
theorem dX7_readTenant_98 : decode cX7_readTenant 98 = .ok (.iastore, 1) := by decide +kernel
theorem dX7_readTenant_99 : decode cX7_readTenant 99 = .ok (.aload_n 1, 1) := by decide +kernel
theorem dX7_readTenant_100 : decode cX7_readTenant 100 = .ok (.getfield 84, 3) := by decide +kernel
theorem dX7_readTenant_103 : decode cX7_readTenant 103 = .ok (.iload_n 2, 1) := by decide +kernel
theorem dX7_readTenant_104 : decode cX7_readTenant 104 = .ok (.iconst 0, 1) := by decide +kernel
theorem dX7_readTenant_105 : decode cX7_readTenant 105 = .ok (.iastore, 1) := by decide +kernel
theorem dX7_readTenant_106 : decode cX7_readTenant 106 = .ok (.aload_n 1, 1) := by decide +kernel
theorem dX7_readTenant_107 : decode cX7_readTenant 107 = .ok (.iload_n 2, 1) := by decide +kernel
theorem dX7_readTenant_108 : decode cX7_readTenant 108 = .ok (.iconst 1, 1) := by decide +kernel
theorem dX7_readTenant_109 : decode cX7_readTenant 109 = .ok (.iadd, 1) := by decide +kernel
theorem dX7_readTenant_110 : decode cX7_readTenant 110 = .ok (.putfield 21, 3) := by decide +kernel
theorem dX7_readTenant_113 : decode cX7_readTenant 113 = .ok (.iconst 1, 1) := by decide +kernel
theorem dX7_readTenant_114 : decode cX7_readTenant 114 = .ok (.ireturn, 1) := by decide +kernel
set_option maxRecDepth 20000 in
theorem ggX7_readHearing_X7_number : GoodIn wsX7_readHearing wsX7_number := goodIn_r _ [8, 9, 2, 10, 11, 12, 7, 13, 14, 15, 16, 17, 18, 19, 20, 21, 22, 23, 24, 35, 36, 37, 38, 39, 40] (by decide +kernel) (by decide +kernel)
set_option maxRecDepth 20000 in
theorem gX7_readHearing_X7_number : GoodIn wsX7_readHearing (wsV RX7 65 RX7 yX7_number wsX7_number) := goodIn_app (goodIn_of _ (by decide +kernel)) ggX7_readHearing_X7_number
theorem dX7_readHearing_0 : decode cX7_readHearing 0 = .ok (.aload_n 0, 1) := by decide +kernel
theorem dX7_readHearing_1 : decode cX7_readHearing 1 = .ok (.iconst 0, 1) := by decide +kernel
theorem dX7_readHearing_2 : decode cX7_readHearing 2 = .ok (.aload_n 1, 1) := by decide +kernel
theorem dX7_readHearing_3 : decode cX7_readHearing 3 = .ok (.getfield 21, 3) := by decide +kernel
theorem dX7_readHearing_6 : decode cX7_readHearing 6 = .ok (.iconst 1, 1) := by decide +kernel
theorem dX7_readHearing_7 : decode cX7_readHearing 7 = .ok (.isub, 1) := by decide +kernel
theorem dX7_readHearing_8 : decode cX7_readHearing 8 = .ok (.invokevirtual 65, 3) := by decide +kernel
theorem dX7_readHearing_11 : decode cX7_readHearing 11 = .ok (.ifCond .ne 5, 3) := by decide +kernel
theorem dX7_readHearing_14 : decode cX7_readHearing 14 = .ok (.iconst 0, 1) := by decide +kernel
theorem dX7_readHearing_15 : decode cX7_readHearing 15 = .ok (.ireturn, 1) := by decide +kernel
theorem dX7_readHearing_16 : decode cX7_readHearing 16 = .ok (.aload_n 0, 1) := by decide +kernel
theorem dX7_readHearing_17 : decode cX7_readHearing 17 = .ok (.getfield 46, 3) := by decide +kernel
theorem dX7_readHearing_20 : decode cX7_readHearing 20 = .ok (.istore_n 2, 1) := by decide +kernel
theorem dX7_readHearing_21 : decode cX7_readHearing 21 = .ok (.aload_n 0, 1) := by decide +kernel
theorem dX7_readHearing_22 : decode cX7_readHearing 22 = .ok (.iconst 0, 1) := by decide +kernel
theorem dX7_readHearing_23 : decode cX7_readHearing 23 = .ok (.aload_n 1, 1) := by decide +kernel
theorem dX7_readHearing_24 : decode cX7_readHearing 24 = .ok (.getfield 21, 3) := by decide +kernel
theorem dX7_readHearing_27 : decode cX7_readHearing 27 = .ok (.iconst 1, 1) := by decide +kernel
theorem dX7_readHearing_28 : decode cX7_readHearing 28 = .ok (.isub, 1) := by decide +kernel
theorem dX7_readHearing_29 : decode cX7_readHearing 29 = .ok (.invokevirtual 65, 3) := by decide +kernel
theorem dX7_readHearing_32 : decode cX7_readHearing 32 = .ok (.ifCond .eq 11, 3) := by decide +kernel
theorem dX7_readHearing_35 : decode cX7_readHearing 35 = .ok (.aload_n 0, 1) := by decide +kernel
theorem dX7_readHearing_36 : decode cX7_readHearing 36 = .ok (.getfield 46, 3) := by decide +kernel
theorem dX7_readHearing_39 : decode cX7_readHearing 39 = .ok (.iload_n 2, 1) := by decide +kernel
theorem dX7_readHearing_40 : decode cX7_readHearing 40 = .ok (.if_icmp .ne 5, 3) := by decide +kernel
theorem dX7_readHearing_43 : decode cX7_readHearing 43 = .ok (.iconst 0, 1) := by decide +kernel
theorem dX7_readHearing_44 : decode cX7_readHearing 44 = .ok (.ireturn, 1) := by decide +kernel
theorem dX7_readHearing_45 : decode cX7_readHearing 45 = .ok (.aload_n 1, 1) := by decide +kernel
theorem dX7_readHearing_46 : decode cX7_readHearing 46 = .ok (.getfield 84, 3) := by decide +kernel
theorem dX7_readHearing_49 : decode cX7_readHearing 49 = .ok (.iload_n 2, 1) := by decide +kernel
theorem dX7_readHearing_50 : decode cX7_readHearing 50 = .ok (.dup2, 1) := by decide +kernel
theorem dX7_readHearing_51 : decode cX7_readHearing 51 = .ok (.iaload, 1) := by decide +kernel
theorem dX7_readHearing_52 : decode cX7_readHearing 52 = .ok (.iconst 1, 1) := by decide +kernel
theorem dX7_readHearing_53 : decode cX7_readHearing 53 = .ok (.aload_n 0, 1) := by decide +kernel
theorem dX7_readHearing_54 : decode cX7_readHearing 54 = .ok (.getfield 46, 3) := by decide +kernel
theorem dX7_readHearing_57 : decode cX7_readHearing 57 = .ok (.ishl, 1) := by decide +kernel
theorem dX7_readHearing_58 : decode cX7_readHearing 58 = .ok (.ior, 1) := by decide +kernel
theorem dX7_readHearing_59 : decode cX7_readHearing 59 = .ok (.iastore, 1) := by decide +kernel
theorem dX7_readHearing_60 : decode cX7_readHearing 60 = .ok (.iconst 1, 1) := by decide +kernel
theorem dX7_readHearing_61 : decode cX7_readHearing 61 = .ok (.ireturn, 1) := by decide +kernel
set_option maxRecDepth 20000 in
theorem ggX7_readChair_X7_number : GoodIn wsX7_readChair wsX7_number := goodIn_r _ [8, 9, 3, 10, 11, 12, 7, 13, 14, 15, 16, 17, 18, 19, 20, 21, 22, 23, 24, 35, 36, 37, 38, 39, 40] (by decide +kernel) (by decide +kernel)
set_option maxRecDepth 20000 in
theorem gX7_readChair_X7_number : GoodIn wsX7_readChair (wsV RX7 65 RX7 yX7_number wsX7_number) := goodIn_app (goodIn_of _ (by decide +kernel)) ggX7_readChair_X7_number
theorem dX7_readChair_0 : decode cX7_readChair 0 = .ok (.aload_n 1, 1) := by decide +kernel
theorem dX7_readChair_1 : decode cX7_readChair 1 = .ok (.getfield 24, 3) := by decide +kernel
theorem dX7_readChair_4 : decode cX7_readChair 4 = .ok (.istore_n 2, 1) := by decide +kernel
theorem dX7_readChair_5 : decode cX7_readChair 5 = .ok (.iload_n 2, 1) := by decide +kernel
theorem dX7_readChair_6 : decode cX7_readChair 6 = .ok (.iconst 5, 1) := by decide +kernel
theorem dX7_readChair_7 : decode cX7_readChair 7 = .ok (.if_icmp .ge 13, 3) := by decide +kernel
theorem dX7_readChair_10 : decode cX7_readChair 10 = .ok (.aload_n 0, 1) := by decide +kernel
theorem dX7_readChair_11 : decode cX7_readChair 11 = .ok (.iconst 0, 1) := by decide +kernel
theorem dX7_readChair_12 : decode cX7_readChair 12 = .ok (.bipush 63, 2) := by decide +kernel
theorem dX7_readChair_14 : decode cX7_readChair 14 = .ok (.invokevirtual 65, 3) := by decide +kernel
theorem dX7_readChair_17 : decode cX7_readChair 17 = .ok (.ifCond .ne 5, 3) := by decide +kernel
theorem dX7_readChair_20 : decode cX7_readChair 20 = .ok (.iconst 0, 1) := by decide +kernel
theorem dX7_readChair_21 : decode cX7_readChair 21 = .ok (.ireturn, 1) := by decide +kernel
theorem dX7_readChair_22 : decode cX7_readChair 22 = .ok (.aload_n 1, 1) := by decide +kernel
theorem dX7_readChair_23 : decode cX7_readChair 23 = .ok (.getfield 87, 3) := by decide +kernel
theorem dX7_readChair_26 : decode cX7_readChair 26 = .ok (.iload_n 2, 1) := by decide +kernel
theorem dX7_readChair_27 : decode cX7_readChair 27 = .ok (.aload_n 0, 1) := by decide +kernel
theorem dX7_readChair_28 : decode cX7_readChair 28 = .ok (.getfield 46, 3) := by decide +kernel
theorem dX7_readChair_31 : decode cX7_readChair 31 = .ok (.iastore, 1) := by decide +kernel
theorem dX7_readChair_32 : decode cX7_readChair 32 = .ok (.aload_n 1, 1) := by decide +kernel
theorem dX7_readChair_33 : decode cX7_readChair 33 = .ok (.iload_n 2, 1) := by decide +kernel
theorem dX7_readChair_34 : decode cX7_readChair 34 = .ok (.iconst 1, 1) := by decide +kernel
theorem dX7_readChair_35 : decode cX7_readChair 35 = .ok (.iadd, 1) := by decide +kernel
theorem dX7_readChair_36 : decode cX7_readChair 36 = .ok (.putfield 24, 3) := by decide +kernel
theorem dX7_readChair_39 : decode cX7_readChair 39 = .ok (.iconst 1, 1) := by decide +kernel
theorem dX7_readChair_40 : decode cX7_readChair 40 = .ok (.ireturn, 1) := by decide +kernel
set_option maxRecDepth 20000 in
theorem ggX7_number_X7_step : GoodIn wsX7_number wsX7_step := goodIn_r _ [7, 8, 9, 10, 11, 1, 2, 12, 13, 6, 14, 15, 16, 17, 18, 19, 20, 21, 22, 23, 24] (by decide +kernel) (by decide +kernel)
set_option maxRecDepth 20000 in
theorem gX7_number_X7_step : GoodIn wsX7_number (wsV RX7 33 RX7 yX7_step wsX7_step) := goodIn_app (goodIn_of _ (by decide +kernel)) ggX7_number_X7_step
theorem dX7_number_0 : decode cX7_number 0 = .ok (.aload_n 0, 1) := by decide +kernel
theorem dX7_number_1 : decode cX7_number 1 = .ok (.invokevirtual 33, 3) := by decide +kernel
theorem dX7_number_4 : decode cX7_number 4 = .ok (.aload_n 0, 1) := by decide +kernel
theorem dX7_number_5 : decode cX7_number 5 = .ok (.getfield 36, 3) := by decide +kernel
theorem dX7_number_8 : decode cX7_number 8 = .ok (.iconst 2, 1) := by decide +kernel
theorem dX7_number_9 : decode cX7_number 9 = .ok (.if_icmp .ne 23, 3) := by decide +kernel
theorem dX7_number_12 : decode cX7_number 12 = .ok (.aload_n 0, 1) := by decide +kernel
theorem dX7_number_13 : decode cX7_number 13 = .ok (.getfield 46, 3) := by decide +kernel
theorem dX7_number_16 : decode cX7_number 16 = .ok (.iload_n 1, 1) := by decide +kernel
theorem dX7_number_17 : decode cX7_number 17 = .ok (.if_icmp .lt 15, 3) := by decide +kernel
theorem dX7_number_20 : decode cX7_number 20 = .ok (.aload_n 0, 1) := by decide +kernel
theorem dX7_number_21 : decode cX7_number 21 = .ok (.getfield 46, 3) := by decide +kernel
theorem dX7_number_24 : decode cX7_number 24 = .ok (.iload_n 2, 1) := by decide +kernel
theorem dX7_number_25 : decode cX7_number 25 = .ok (.if_icmp .gt 7, 3) := by decide +kernel
theorem dX7_number_28 : decode cX7_number 28 = .ok (.iconst 1, 1) := by decide +kernel
theorem dX7_number_29 : decode cX7_number 29 = .ok (.goto 4, 3) := by decide +kernel
theorem dX7_number_32 : decode cX7_number 32 = .ok (.iconst 0, 1) := by decide +kernel
theorem dX7_number_33 : decode cX7_number 33 = .ok (.ireturn, 1) := by decide +kernel
set_option maxRecDepth 20000 in
theorem ggX7_semicolon_X7_step : GoodIn wsX7_semicolon wsX7_step := goodIn_r _ [6, 7, 8, 9, 10, 1, 11, 12, 13, 5, 14, 15, 16, 17, 18, 19, 20, 21, 22, 23, 24] (by decide +kernel) (by decide +kernel)
set_option maxRecDepth 20000 in
theorem gX7_semicolon_X7_step : GoodIn wsX7_semicolon (wsV RX7 33 RX7 yX7_step wsX7_step) := goodIn_app (goodIn_of _ (by decide +kernel)) ggX7_semicolon_X7_step
theorem dX7_semicolon_0 : decode cX7_semicolon 0 = .ok (.aload_n 0, 1) := by decide +kernel
theorem dX7_semicolon_1 : decode cX7_semicolon 1 = .ok (.invokevirtual 33, 3) := by decide +kernel
theorem dX7_semicolon_4 : decode cX7_semicolon 4 = .ok (.aload_n 0, 1) := by decide +kernel
theorem dX7_semicolon_5 : decode cX7_semicolon 5 = .ok (.getfield 36, 3) := by decide +kernel
theorem dX7_semicolon_8 : decode cX7_semicolon 8 = .ok (.iconst 3, 1) := by decide +kernel
theorem dX7_semicolon_9 : decode cX7_semicolon 9 = .ok (.if_icmp .ne 7, 3) := by decide +kernel
theorem dX7_semicolon_12 : decode cX7_semicolon 12 = .ok (.iconst 1, 1) := by decide +kernel
theorem dX7_semicolon_13 : decode cX7_semicolon 13 = .ok (.goto 4, 3) := by decide +kernel
theorem dX7_semicolon_16 : decode cX7_semicolon 16 = .ok (.iconst 0, 1) := by decide +kernel
theorem dX7_semicolon_17 : decode cX7_semicolon 17 = .ok (.ireturn, 1) := by decide +kernel
set_option maxRecDepth 20000 in
theorem ggX7_step_X7_kindOf : GoodIn wsX7_step wsX7_kindOf := goodIn_r _ [10] (by decide +kernel) (by decide +kernel)
set_option maxRecDepth 20000 in
theorem gX7_step_X7_kindOf : GoodIn wsX7_step (va_wsS RX7 90 yX7_kindOf wsX7_kindOf) := goodIn_app (goodIn_of _ (by decide +kernel)) ggX7_step_X7_kindOf
set_option maxRecDepth 20000 in
theorem ggX7_step_X7_takeDigits : GoodIn wsX7_step wsX7_takeDigits := goodIn_r _ [14, 1, 4, 3, 5, 6, 15, 16, 17, 18, 19, 20] (by decide +kernel) (by decide +kernel)
set_option maxRecDepth 20000 in
theorem gX7_step_X7_takeDigits : GoodIn wsX7_step (wsV RX7 94 RX7 yX7_takeDigits wsX7_takeDigits) := goodIn_app (goodIn_of _ (by decide +kernel)) ggX7_step_X7_takeDigits
theorem dX7_step_0 : decode cX7_step 0 = .ok (.aload_n 0, 1) := by decide +kernel
theorem dX7_step_1 : decode cX7_step 1 = .ok (.getfield 27, 3) := by decide +kernel
theorem dX7_step_4 : decode cX7_step 4 = .ok (.aload_n 0, 1) := by decide +kernel
theorem dX7_step_5 : decode cX7_step 5 = .ok (.getfield 30, 3) := by decide +kernel
theorem dX7_step_8 : decode cX7_step 8 = .ok (.if_icmp .ge 30, 3) := by decide +kernel
theorem dX7_step_11 : decode cX7_step 11 = .ok (.aload_n 0, 1) := by decide +kernel
theorem dX7_step_12 : decode cX7_step 12 = .ok (.getfield 9, 3) := by decide +kernel
theorem dX7_step_15 : decode cX7_step 15 = .ok (.aload_n 0, 1) := by decide +kernel
theorem dX7_step_16 : decode cX7_step 16 = .ok (.getfield 27, 3) := by decide +kernel
theorem dX7_step_19 : decode cX7_step 19 = .ok (.iaload, 1) := by decide +kernel
theorem dX7_step_20 : decode cX7_step 20 = .ok (.bipush 32, 2) := by decide +kernel
theorem dX7_step_22 : decode cX7_step 22 = .ok (.if_icmp .ne 16, 3) := by decide +kernel
theorem dX7_step_25 : decode cX7_step 25 = .ok (.aload_n 0, 1) := by decide +kernel
theorem dX7_step_26 : decode cX7_step 26 = .ok (.dup, 1) := by decide +kernel
theorem dX7_step_27 : decode cX7_step 27 = .ok (.getfield 27, 3) := by decide +kernel
theorem dX7_step_30 : decode cX7_step 30 = .ok (.iconst 1, 1) := by decide +kernel
theorem dX7_step_31 : decode cX7_step 31 = .ok (.iadd, 1) := by decide +kernel
theorem dX7_step_32 : decode cX7_step 32 = .ok (.putfield 27, 3) := by decide +kernel
theorem dX7_step_35 : decode cX7_step 35 = .ok (.goto (-35), 3) := by decide +kernel
theorem dX7_step_38 : decode cX7_step 38 = .ok (.aload_n 0, 1) := by decide +kernel
theorem dX7_step_39 : decode cX7_step 39 = .ok (.aload_n 0, 1) := by decide +kernel
theorem dX7_step_40 : decode cX7_step 40 = .ok (.getfield 27, 3) := by decide +kernel
theorem dX7_step_43 : decode cX7_step 43 = .ok (.putfield 43, 3) := by decide +kernel
theorem dX7_step_46 : decode cX7_step 46 = .ok (.aload_n 0, 1) := by decide +kernel
theorem dX7_step_47 : decode cX7_step 47 = .ok (.getfield 27, 3) := by decide +kernel
theorem dX7_step_50 : decode cX7_step 50 = .ok (.aload_n 0, 1) := by decide +kernel
theorem dX7_step_51 : decode cX7_step 51 = .ok (.getfield 30, 3) := by decide +kernel
theorem dX7_step_54 : decode cX7_step 54 = .ok (.if_icmp .lt 9, 3) := by decide +kernel
theorem dX7_step_57 : decode cX7_step 57 = .ok (.aload_n 0, 1) := by decide +kernel
theorem dX7_step_58 : decode cX7_step 58 = .ok (.iconst 0, 1) := by decide +kernel
theorem dX7_step_59 : decode cX7_step 59 = .ok (.putfield 36, 3) := by decide +kernel
theorem dX7_step_62 : decode cX7_step 62 = .ok (.return_, 1) := by decide +kernel
theorem dX7_step_63 : decode cX7_step 63 = .ok (.aload_n 0, 1) := by decide +kernel
theorem dX7_step_64 : decode cX7_step 64 = .ok (.aload_n 0, 1) := by decide +kernel
theorem dX7_step_65 : decode cX7_step 65 = .ok (.getfield 9, 3) := by decide +kernel
theorem dX7_step_68 : decode cX7_step 68 = .ok (.aload_n 0, 1) := by decide +kernel
theorem dX7_step_69 : decode cX7_step 69 = .ok (.getfield 27, 3) := by decide +kernel
theorem dX7_step_72 : decode cX7_step 72 = .ok (.iaload, 1) := by decide +kernel
theorem dX7_step_73 : decode cX7_step 73 = .ok (.invokestatic 90, 3) := by decide +kernel
theorem dX7_step_76 : decode cX7_step 76 = .ok (.putfield 36, 3) := by decide +kernel
theorem dX7_step_79 : decode cX7_step 79 = .ok (.aload_n 0, 1) := by decide +kernel
theorem dX7_step_80 : decode cX7_step 80 = .ok (.dup, 1) := by decide +kernel
theorem dX7_step_81 : decode cX7_step 81 = .ok (.getfield 27, 3) := by decide +kernel
theorem dX7_step_84 : decode cX7_step 84 = .ok (.iconst 1, 1) := by decide +kernel
theorem dX7_step_85 : decode cX7_step 85 = .ok (.iadd, 1) := by decide +kernel
theorem dX7_step_86 : decode cX7_step 86 = .ok (.putfield 27, 3) := by decide +kernel
theorem dX7_step_89 : decode cX7_step 89 = .ok (.aload_n 0, 1) := by decide +kernel
theorem dX7_step_90 : decode cX7_step 90 = .ok (.getfield 27, 3) := by decide +kernel
theorem dX7_step_93 : decode cX7_step 93 = .ok (.aload_n 0, 1) := by decide +kernel
theorem dX7_step_94 : decode cX7_step 94 = .ok (.getfield 30, 3) := by decide +kernel
theorem dX7_step_97 : decode cX7_step 97 = .ok (.if_icmp .ge 51, 3) := by decide +kernel
theorem dX7_step_100 : decode cX7_step 100 = .ok (.aload_n 0, 1) := by decide +kernel
theorem dX7_step_101 : decode cX7_step 101 = .ok (.getfield 36, 3) := by decide +kernel
theorem dX7_step_104 : decode cX7_step 104 = .ok (.iconst 1, 1) := by decide +kernel
theorem dX7_step_105 : decode cX7_step 105 = .ok (.if_icmp .eq 11, 3) := by decide +kernel
theorem dX7_step_108 : decode cX7_step 108 = .ok (.aload_n 0, 1) := by decide +kernel
theorem dX7_step_109 : decode cX7_step 109 = .ok (.getfield 36, 3) := by decide +kernel
theorem dX7_step_112 : decode cX7_step 112 = .ok (.iconst 2, 1) := by decide +kernel
theorem dX7_step_113 : decode cX7_step 113 = .ok (.if_icmp .ne 35, 3) := by decide +kernel
theorem dX7_step_116 : decode cX7_step 116 = .ok (.aload_n 0, 1) := by decide +kernel
theorem dX7_step_117 : decode cX7_step 117 = .ok (.getfield 9, 3) := by decide +kernel
theorem dX7_step_120 : decode cX7_step 120 = .ok (.aload_n 0, 1) := by decide +kernel
theorem dX7_step_121 : decode cX7_step 121 = .ok (.getfield 27, 3) := by decide +kernel
theorem dX7_step_124 : decode cX7_step 124 = .ok (.iaload, 1) := by decide +kernel
theorem dX7_step_125 : decode cX7_step 125 = .ok (.invokestatic 90, 3) := by decide +kernel
theorem dX7_step_128 : decode cX7_step 128 = .ok (.aload_n 0, 1) := by decide +kernel
theorem dX7_step_129 : decode cX7_step 129 = .ok (.getfield 36, 3) := by decide +kernel
theorem dX7_step_132 : decode cX7_step 132 = .ok (.if_icmp .ne 16, 3) := by decide +kernel
theorem dX7_step_135 : decode cX7_step 135 = .ok (.aload_n 0, 1) := by decide +kernel
theorem dX7_step_136 : decode cX7_step 136 = .ok (.dup, 1) := by decide +kernel
theorem dX7_step_137 : decode cX7_step 137 = .ok (.getfield 27, 3) := by decide +kernel
theorem dX7_step_140 : decode cX7_step 140 = .ok (.iconst 1, 1) := by decide +kernel
theorem dX7_step_141 : decode cX7_step 141 = .ok (.iadd, 1) := by decide +kernel
theorem dX7_step_142 : decode cX7_step 142 = .ok (.putfield 27, 3) := by decide +kernel
theorem dX7_step_145 : decode cX7_step 145 = .ok (.goto (-56), 3) := by decide +kernel
theorem dX7_step_148 : decode cX7_step 148 = .ok (.aload_n 0, 1) := by decide +kernel
theorem dX7_step_149 : decode cX7_step 149 = .ok (.getfield 36, 3) := by decide +kernel
theorem dX7_step_152 : decode cX7_step 152 = .ok (.iconst 1, 1) := by decide +kernel
theorem dX7_step_153 : decode cX7_step 153 = .ok (.if_icmp .ne 36, 3) := by decide +kernel
theorem dX7_step_156 : decode cX7_step 156 = .ok (.aload_n 0, 1) := by decide +kernel
theorem dX7_step_157 : decode cX7_step 157 = .ok (.aload_n 0, 1) := by decide +kernel
theorem dX7_step_158 : decode cX7_step 158 = .ok (.getfield 27, 3) := by decide +kernel
theorem dX7_step_161 : decode cX7_step 161 = .ok (.aload_n 0, 1) := by decide +kernel
theorem dX7_step_162 : decode cX7_step 162 = .ok (.getfield 43, 3) := by decide +kernel
theorem dX7_step_165 : decode cX7_step 165 = .ok (.isub, 1) := by decide +kernel
theorem dX7_step_166 : decode cX7_step 166 = .ok (.iconst 1, 1) := by decide +kernel
theorem dX7_step_167 : decode cX7_step 167 = .ok (.if_icmp .ne 15, 3) := by decide +kernel
theorem dX7_step_170 : decode cX7_step 170 = .ok (.aload_n 0, 1) := by decide +kernel
theorem dX7_step_171 : decode cX7_step 171 = .ok (.getfield 9, 3) := by decide +kernel
theorem dX7_step_174 : decode cX7_step 174 = .ok (.aload_n 0, 1) := by decide +kernel
theorem dX7_step_175 : decode cX7_step 175 = .ok (.getfield 43, 3) := by decide +kernel
theorem dX7_step_178 : decode cX7_step 178 = .ok (.iaload, 1) := by decide +kernel
theorem dX7_step_179 : decode cX7_step 179 = .ok (.goto 4, 3) := by decide +kernel
theorem dX7_step_182 : decode cX7_step 182 = .ok (.iconst 0, 1) := by decide +kernel
theorem dX7_step_183 : decode cX7_step 183 = .ok (.putfield 46, 3) := by decide +kernel
theorem dX7_step_186 : decode cX7_step 186 = .ok (.goto 15, 3) := by decide +kernel
theorem dX7_step_189 : decode cX7_step 189 = .ok (.aload_n 0, 1) := by decide +kernel
theorem dX7_step_190 : decode cX7_step 190 = .ok (.getfield 36, 3) := by decide +kernel
theorem dX7_step_193 : decode cX7_step 193 = .ok (.iconst 2, 1) := by decide +kernel
theorem dX7_step_194 : decode cX7_step 194 = .ok (.if_icmp .ne 7, 3) := by decide +kernel
theorem dX7_step_197 : decode cX7_step 197 = .ok (.aload_n 0, 1) := by decide +kernel
theorem dX7_step_198 : decode cX7_step 198 = .ok (.invokevirtual 94, 3) := by decide +kernel
theorem dX7_step_201 : decode cX7_step 201 = .ok (.return_, 1) := by decide +kernel
theorem dX7_takeDigits_0 : decode cX7_takeDigits 0 = .ok (.aload_n 0, 1) := by decide +kernel
theorem dX7_takeDigits_1 : decode cX7_takeDigits 1 = .ok (.getfield 27, 3) := by decide +kernel
theorem dX7_takeDigits_4 : decode cX7_takeDigits 4 = .ok (.aload_n 0, 1) := by decide +kernel
theorem dX7_takeDigits_5 : decode cX7_takeDigits 5 = .ok (.getfield 43, 3) := by decide +kernel
theorem dX7_takeDigits_8 : decode cX7_takeDigits 8 = .ok (.isub, 1) := by decide +kernel
theorem dX7_takeDigits_9 : decode cX7_takeDigits 9 = .ok (.istore_n 1, 1) := by decide +kernel
theorem dX7_takeDigits_10 : decode cX7_takeDigits 10 = .ok (.iload_n 1, 1) := by decide +kernel
theorem dX7_takeDigits_11 : decode cX7_takeDigits 11 = .ok (.iconst 2, 1) := by decide +kernel
theorem dX7_takeDigits_12 : decode cX7_takeDigits 12 = .ok (.if_icmp .gt 22, 3) := by decide +kernel
theorem dX7_takeDigits_15 : decode cX7_takeDigits 15 = .ok (.iload_n 1, 1) := by decide +kernel
theorem dX7_takeDigits_16 : decode cX7_takeDigits 16 = .ok (.iconst 2, 1) := by decide +kernel
theorem dX7_takeDigits_17 : decode cX7_takeDigits 17 = .ok (.if_icmp .ne 23, 3) := by decide +kernel
theorem dX7_takeDigits_20 : decode cX7_takeDigits 20 = .ok (.aload_n 0, 1) := by decide +kernel
theorem dX7_takeDigits_21 : decode cX7_takeDigits 21 = .ok (.getfield 9, 3) := by decide +kernel
theorem dX7_takeDigits_24 : decode cX7_takeDigits 24 = .ok (.aload_n 0, 1) := by decide +kernel
theorem dX7_takeDigits_25 : decode cX7_takeDigits 25 = .ok (.getfield 43, 3) := by decide +kernel
theorem dX7_takeDigits_28 : decode cX7_takeDigits 28 = .ok (.iaload, 1) := by decide +kernel
theorem dX7_takeDigits_29 : decode cX7_takeDigits 29 = .ok (.bipush 48, 2) := by decide +kernel
theorem dX7_takeDigits_31 : decode cX7_takeDigits 31 = .ok (.if_icmp .ne 9, 3) := by decide +kernel
theorem dX7_takeDigits_34 : decode cX7_takeDigits 34 = .ok (.aload_n 0, 1) := by decide +kernel
theorem dX7_takeDigits_35 : decode cX7_takeDigits 35 = .ok (.iconst 4, 1) := by decide +kernel
theorem dX7_takeDigits_36 : decode cX7_takeDigits 36 = .ok (.putfield 36, 3) := by decide +kernel
theorem dX7_takeDigits_39 : decode cX7_takeDigits 39 = .ok (.return_, 1) := by decide +kernel
theorem dX7_takeDigits_40 : decode cX7_takeDigits 40 = .ok (.aload_n 0, 1) := by decide +kernel
theorem dX7_takeDigits_41 : decode cX7_takeDigits 41 = .ok (.aload_n 0, 1) := by decide +kernel
theorem dX7_takeDigits_42 : decode cX7_takeDigits 42 = .ok (.getfield 9, 3) := by decide +kernel
theorem dX7_takeDigits_45 : decode cX7_takeDigits 45 = .ok (.aload_n 0, 1) := by decide +kernel
theorem dX7_takeDigits_46 : decode cX7_takeDigits 46 = .ok (.getfield 43, 3) := by decide +kernel
theorem dX7_takeDigits_49 : decode cX7_takeDigits 49 = .ok (.iaload, 1) := by decide +kernel
theorem dX7_takeDigits_50 : decode cX7_takeDigits 50 = .ok (.bipush 48, 2) := by decide +kernel
theorem dX7_takeDigits_52 : decode cX7_takeDigits 52 = .ok (.isub, 1) := by decide +kernel
theorem dX7_takeDigits_53 : decode cX7_takeDigits 53 = .ok (.putfield 46, 3) := by decide +kernel
theorem dX7_takeDigits_56 : decode cX7_takeDigits 56 = .ok (.iload_n 1, 1) := by decide +kernel
theorem dX7_takeDigits_57 : decode cX7_takeDigits 57 = .ok (.iconst 2, 1) := by decide +kernel
theorem dX7_takeDigits_58 : decode cX7_takeDigits 58 = .ok (.if_icmp .ne 29, 3) := by decide +kernel
theorem dX7_takeDigits_61 : decode cX7_takeDigits 61 = .ok (.aload_n 0, 1) := by decide +kernel
theorem dX7_takeDigits_62 : decode cX7_takeDigits 62 = .ok (.aload_n 0, 1) := by decide +kernel
theorem dX7_takeDigits_63 : decode cX7_takeDigits 63 = .ok (.getfield 46, 3) := by decide +kernel
theorem dX7_takeDigits_66 : decode cX7_takeDigits 66 = .ok (.bipush 10, 2) := by decide +kernel
theorem dX7_takeDigits_68 : decode cX7_takeDigits 68 = .ok (.imul, 1) := by decide +kernel
theorem dX7_takeDigits_69 : decode cX7_takeDigits 69 = .ok (.aload_n 0, 1) := by decide +kernel
theorem dX7_takeDigits_70 : decode cX7_takeDigits 70 = .ok (.getfield 9, 3) := by decide +kernel
theorem dX7_takeDigits_73 : decode cX7_takeDigits 73 = .ok (.aload_n 0, 1) := by decide +kernel
theorem dX7_takeDigits_74 : decode cX7_takeDigits 74 = .ok (.getfield 43, 3) := by decide +kernel
theorem dX7_takeDigits_77 : decode cX7_takeDigits 77 = .ok (.iconst 1, 1) := by decide +kernel
theorem dX7_takeDigits_78 : decode cX7_takeDigits 78 = .ok (.iadd, 1) := by decide +kernel
theorem dX7_takeDigits_79 : decode cX7_takeDigits 79 = .ok (.iaload, 1) := by decide +kernel
theorem dX7_takeDigits_80 : decode cX7_takeDigits 80 = .ok (.iadd, 1) := by decide +kernel
theorem dX7_takeDigits_81 : decode cX7_takeDigits 81 = .ok (.bipush 48, 2) := by decide +kernel
theorem dX7_takeDigits_83 : decode cX7_takeDigits 83 = .ok (.isub, 1) := by decide +kernel
theorem dX7_takeDigits_84 : decode cX7_takeDigits 84 = .ok (.putfield 46, 3) := by decide +kernel
theorem dX7_takeDigits_87 : decode cX7_takeDigits 87 = .ok (.return_, 1) := by decide +kernel
theorem dX7_kindOf_0 : decode cX7_kindOf 0 = .ok (.iload_n 0, 1) := by decide +kernel
theorem dX7_kindOf_1 : decode cX7_kindOf 1 = .ok (.bipush 97, 2) := by decide +kernel
theorem dX7_kindOf_3 : decode cX7_kindOf 3 = .ok (.if_icmp .lt 11, 3) := by decide +kernel
theorem dX7_kindOf_6 : decode cX7_kindOf 6 = .ok (.iload_n 0, 1) := by decide +kernel
theorem dX7_kindOf_7 : decode cX7_kindOf 7 = .ok (.bipush 122, 2) := by decide +kernel
theorem dX7_kindOf_9 : decode cX7_kindOf 9 = .ok (.if_icmp .gt 5, 3) := by decide +kernel
theorem dX7_kindOf_12 : decode cX7_kindOf 12 = .ok (.iconst 1, 1) := by decide +kernel
theorem dX7_kindOf_13 : decode cX7_kindOf 13 = .ok (.ireturn, 1) := by decide +kernel
theorem dX7_kindOf_14 : decode cX7_kindOf 14 = .ok (.iload_n 0, 1) := by decide +kernel
theorem dX7_kindOf_15 : decode cX7_kindOf 15 = .ok (.bipush 48, 2) := by decide +kernel
theorem dX7_kindOf_17 : decode cX7_kindOf 17 = .ok (.if_icmp .lt 11, 3) := by decide +kernel
theorem dX7_kindOf_20 : decode cX7_kindOf 20 = .ok (.iload_n 0, 1) := by decide +kernel
theorem dX7_kindOf_21 : decode cX7_kindOf 21 = .ok (.bipush 57, 2) := by decide +kernel
theorem dX7_kindOf_23 : decode cX7_kindOf 23 = .ok (.if_icmp .gt 5, 3) := by decide +kernel
theorem dX7_kindOf_26 : decode cX7_kindOf 26 = .ok (.iconst 2, 1) := by decide +kernel
theorem dX7_kindOf_27 : decode cX7_kindOf 27 = .ok (.ireturn, 1) := by decide +kernel
theorem dX7_kindOf_28 : decode cX7_kindOf 28 = .ok (.iload_n 0, 1) := by decide +kernel
theorem dX7_kindOf_29 : decode cX7_kindOf 29 = .ok (.bipush 59, 2) := by decide +kernel
theorem dX7_kindOf_31 : decode cX7_kindOf 31 = .ok (.if_icmp .ne 7, 3) := by decide +kernel
theorem dX7_kindOf_34 : decode cX7_kindOf 34 = .ok (.iconst 3, 1) := by decide +kernel
theorem dX7_kindOf_35 : decode cX7_kindOf 35 = .ok (.goto 4, 3) := by decide +kernel
theorem dX7_kindOf_38 : decode cX7_kindOf 38 = .ok (.iconst 4, 1) := by decide +kernel
theorem dX7_kindOf_39 : decode cX7_kindOf 39 = .ok (.ireturn, 1) := by decide +kernel
set_option maxRecDepth 20000 in
theorem ggX8_init_X7_init : GoodIn wsX8_init wsX7_init := goodIn_r _ [40, 41, 2, 3, 35, 42, 99, 100, 101, 102, 103, 104] (by decide +kernel) (by decide +kernel)
set_option maxRecDepth 20000 in
theorem gX8_init_X7_init_n9 : GoodIn wsX8_init (wsX7_init) := ggX8_init_X7_init
set_option maxRecDepth 20000 in
theorem ggX8_init_X2_init : GoodIn wsX8_init wsX2_init := goodIn_r _ [44, 45, 2, 3, 35, 46, 47, 48, 49, 50, 51, 52, 116, 117, 118, 119, 120, 121, 122, 123, 124, 125] (by decide +kernel) (by decide +kernel)
set_option maxRecDepth 20000 in
theorem gX8_init_X2_init_n18 : GoodIn wsX8_init (wsX2_init) := ggX8_init_X2_init
set_option maxRecDepth 20000 in
theorem ggX8_init_X5_init : GoodIn wsX8_init wsX5_init := goodIn_r _ [55, 56, 2, 3, 35, 57, 58, 59, 60, 61, 62, 63, 64, 126, 127, 128, 129, 130] (by decide +kernel) (by decide +kernel)
set_option maxRecDepth 20000 in
theorem gX8_init_X5_init : GoodIn wsX8_init (wsX5_init) := ggX8_init_X5_init
set_option maxRecDepth 20000 in
theorem ggX8_init_X6_init : GoodIn wsX8_init wsX6_init := goodIn_r _ [67, 68, 2, 3, 69, 70, 14, 15, 71, 54, 55, 56, 35, 57, 58, 59, 60, 61, 62, 63, 64, 131, 132, 126, 127, 128, 129, 130] (by decide +kernel) (by decide +kernel)
set_option maxRecDepth 20000 in
theorem gX8_init_X6_init : GoodIn wsX8_init (wsX6_init) := ggX8_init_X6_init
set_option maxRecDepth 20000 in
theorem ggX8_init_X0_init : GoodIn wsX8_init wsX0_init := goodIn_r _ [73, 74, 2, 3, 35, 75, 76, 133, 134, 135] (by decide +kernel) (by decide +kernel)
set_option maxRecDepth 20000 in
theorem gX8_init_X0_init_n48 : GoodIn wsX8_init (wsX0_init) := ggX8_init_X0_init
set_option maxRecDepth 20000 in
theorem ggX8_init_X3_init : GoodIn wsX8_init wsX3_init := goodIn_r _ [78, 79, 2, 3, 35, 80, 81, 82, 136, 137] (by decide +kernel) (by decide +kernel)
set_option maxRecDepth 20000 in
theorem gX8_init_X3_init_n55 : GoodIn wsX8_init (wsX3_init) := ggX8_init_X3_init
set_option maxRecDepth 20000 in
theorem ggX8_init_X1_init : GoodIn wsX8_init wsX1_init := goodIn_r _ [84, 85, 2, 3, 35, 86, 87, 88, 89, 138, 139, 140, 141] (by decide +kernel) (by decide +kernel)
set_option maxRecDepth 20000 in
theorem gX8_init_X1_init_n62 : GoodIn wsX8_init (wsX1_init) := ggX8_init_X1_init
set_option maxRecDepth 20000 in
theorem ggX8_init_X4_init : GoodIn wsX8_init wsX4_init := goodIn_r _ [91, 92, 2, 3, 93, 14, 15, 94, 95, 18, 19, 96, 97, 54, 55, 56, 35, 57, 58, 59, 60, 61, 62, 63, 64, 98, 66, 67, 68, 69, 70, 71, 126, 127, 128, 129, 130, 142, 143, 144, 131, 132] (by decide +kernel) (by decide +kernel)
set_option maxRecDepth 20000 in
theorem gX8_init_X4_init_n71 : GoodIn wsX8_init (wsX4_init) := ggX8_init_X4_init
theorem dX8_init_0 : decode cX8_init 0 = .ok (.aload_n 0, 1) := by decide +kernel
theorem dX8_init_1 : decode cX8_init 1 = .ok (.invokespecial 1, 3) := by decide +kernel
theorem dX8_init_4 : decode cX8_init 4 = .ok (.aload_n 0, 1) := by decide +kernel
theorem dX8_init_5 : decode cX8_init 5 = .ok (.new 7, 3) := by decide +kernel
theorem dX8_init_8 : decode cX8_init 8 = .ok (.dup, 1) := by decide +kernel
theorem dX8_init_9 : decode cX8_init 9 = .ok (.invokespecial 9, 3) := by decide +kernel
theorem dX8_init_12 : decode cX8_init 12 = .ok (.putfield 10, 3) := by decide +kernel
theorem dX8_init_15 : decode cX8_init 15 = .ok (.aload_n 0, 1) := by decide +kernel
theorem dX8_init_16 : decode cX8_init 16 = .ok (.new 16, 3) := by decide +kernel
theorem dX8_init_19 : decode cX8_init 19 = .ok (.dup, 1) := by decide +kernel
theorem dX8_init_20 : decode cX8_init 20 = .ok (.invokespecial 18, 3) := by decide +kernel
theorem dX8_init_23 : decode cX8_init 23 = .ok (.putfield 19, 3) := by decide +kernel
theorem dX8_init_26 : decode cX8_init 26 = .ok (.aload_n 0, 1) := by decide +kernel
theorem dX8_init_27 : decode cX8_init 27 = .ok (.new 16, 3) := by decide +kernel

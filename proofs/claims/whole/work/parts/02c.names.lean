theorem dX8_init_30 : decode cX8_init 30 = .ok (.dup, 1) := by decide +kernel
theorem dX8_init_31 : decode cX8_init 31 = .ok (.invokespecial 18, 3) := by decide +kernel
theorem dX8_init_34 : decode cX8_init 34 = .ok (.putfield 23, 3) := by decide +kernel
theorem dX8_init_37 : decode cX8_init 37 = .ok (.aload_n 0, 1) := by decide +kernel
theorem dX8_init_38 : decode cX8_init 38 = .ok (.new 26, 3) := by decide +kernel
theorem dX8_init_41 : decode cX8_init 41 = .ok (.dup, 1) := by decide +kernel
theorem dX8_init_42 : decode cX8_init 42 = .ok (.invokespecial 28, 3) := by decide +kernel
theorem dX8_init_45 : decode cX8_init 45 = .ok (.putfield 29, 3) := by decide +kernel
theorem dX8_init_48 : decode cX8_init 48 = .ok (.aload_n 0, 1) := by decide +kernel
theorem dX8_init_49 : decode cX8_init 49 = .ok (.new 33, 3) := by decide +kernel
theorem dX8_init_52 : decode cX8_init 52 = .ok (.dup, 1) := by decide +kernel
theorem dX8_init_53 : decode cX8_init 53 = .ok (.invokespecial 35, 3) := by decide +kernel
theorem dX8_init_56 : decode cX8_init 56 = .ok (.putfield 36, 3) := by decide +kernel
theorem dX8_init_59 : decode cX8_init 59 = .ok (.aload_n 0, 1) := by decide +kernel
theorem dX8_init_60 : decode cX8_init 60 = .ok (.iconst 2, 1) := by decide +kernel
theorem dX8_init_61 : decode cX8_init 61 = .ok (.anewarray 40, 3) := by decide +kernel
theorem dX8_init_64 : decode cX8_init 64 = .ok (.putfield 42, 3) := by decide +kernel
theorem dX8_init_67 : decode cX8_init 67 = .ok (.aload_n 0, 1) := by decide +kernel
theorem dX8_init_68 : decode cX8_init 68 = .ok (.new 46, 3) := by decide +kernel
theorem dX8_init_71 : decode cX8_init 71 = .ok (.dup, 1) := by decide +kernel
theorem dX8_init_72 : decode cX8_init 72 = .ok (.invokespecial 48, 3) := by decide +kernel
theorem dX8_init_75 : decode cX8_init 75 = .ok (.putfield 49, 3) := by decide +kernel
theorem dX8_init_78 : decode cX8_init 78 = .ok (.aload_n 0, 1) := by decide +kernel
theorem dX8_init_79 : decode cX8_init 79 = .ok (.new 53, 3) := by decide +kernel
theorem dX8_init_82 : decode cX8_init 82 = .ok (.dup, 1) := by decide +kernel
theorem dX8_init_83 : decode cX8_init 83 = .ok (.invokespecial 55, 3) := by decide +kernel
theorem dX8_init_86 : decode cX8_init 86 = .ok (.putfield 56, 3) := by decide +kernel
theorem dX8_init_89 : decode cX8_init 89 = .ok (.aload_n 0, 1) := by decide +kernel
theorem dX8_init_90 : decode cX8_init 90 = .ok (.new 60, 3) := by decide +kernel
theorem dX8_init_93 : decode cX8_init 93 = .ok (.dup, 1) := by decide +kernel
theorem dX8_init_94 : decode cX8_init 94 = .ok (.invokespecial 62, 3) := by decide +kernel
theorem dX8_init_97 : decode cX8_init 97 = .ok (.putfield 63, 3) := by decide +kernel
theorem dX8_init_100 : decode cX8_init 100 = .ok (.aload_n 0, 1) := by decide +kernel
theorem dX8_init_101 : decode cX8_init 101 = .ok (.bipush 64, 2) := by decide +kernel
theorem dX8_init_103 : decode cX8_init 103 = .ok (.newarray .int, 2) := by decide +kernel
theorem dX8_init_105 : decode cX8_init 105 = .ok (.putfield 67, 3) := by decide +kernel
theorem dX8_init_108 : decode cX8_init 108 = .ok (.iconst 0, 1) := by decide +kernel
theorem dX8_init_109 : decode cX8_init 109 = .ok (.istore_n 1, 1) := by decide +kernel
theorem dX8_init_110 : decode cX8_init 110 = .ok (.iload_n 1, 1) := by decide +kernel
theorem dX8_init_111 : decode cX8_init 111 = .ok (.iconst 2, 1) := by decide +kernel
theorem dX8_init_112 : decode cX8_init 112 = .ok (.if_icmp .ge 22, 3) := by decide +kernel
theorem dX8_init_115 : decode cX8_init 115 = .ok (.aload_n 0, 1) := by decide +kernel
theorem dX8_init_116 : decode cX8_init 116 = .ok (.getfield 42, 3) := by decide +kernel
theorem dX8_init_119 : decode cX8_init 119 = .ok (.iload_n 1, 1) := by decide +kernel
theorem dX8_init_120 : decode cX8_init 120 = .ok (.new 40, 3) := by decide +kernel
theorem dX8_init_123 : decode cX8_init 123 = .ok (.dup, 1) := by decide +kernel
theorem dX8_init_124 : decode cX8_init 124 = .ok (.invokespecial 71, 3) := by decide +kernel
theorem dX8_init_127 : decode cX8_init 127 = .ok (.aastore, 1) := by decide +kernel
theorem dX8_init_128 : decode cX8_init 128 = .ok (.iinc 1 1, 3) := by decide +kernel
theorem dX8_init_131 : decode cX8_init 131 = .ok (.goto (-21), 3) := by decide +kernel
theorem dX8_init_134 : decode cX8_init 134 = .ok (.return_, 1) := by decide +kernel
theorem dX8_type_0 : decode cX8_type 0 = .ok (.iload_n 1, 1) := by decide +kernel
theorem dX8_type_1 : decode cX8_type 1 = .ok (.ifCond .lt 10, 3) := by decide +kernel
theorem dX8_type_4 : decode cX8_type 4 = .ok (.iload_n 1, 1) := by decide +kernel
theorem dX8_type_5 : decode cX8_type 5 = .ok (.sipush 255, 3) := by decide +kernel
theorem dX8_type_8 : decode cX8_type 8 = .ok (.if_icmp .le 5, 3) := by decide +kernel
theorem dX8_type_11 : decode cX8_type 11 = .ok (.iconst (-1), 1) := by decide +kernel
theorem dX8_type_12 : decode cX8_type 12 = .ok (.ireturn, 1) := by decide +kernel
theorem dX8_type_13 : decode cX8_type 13 = .ok (.aload_n 0, 1) := by decide +kernel
theorem dX8_type_14 : decode cX8_type 14 = .ok (.getfield 10, 3) := by decide +kernel
theorem dX8_type_17 : decode cX8_type 17 = .ok (.getfield 72, 3) := by decide +kernel
theorem dX8_type_20 : decode cX8_type 20 = .ok (.sipush 200, 3) := by decide +kernel
theorem dX8_type_23 : decode cX8_type 23 = .ok (.if_icmp .lt 6, 3) := by decide +kernel
theorem dX8_type_26 : decode cX8_type 26 = .ok (.bipush (-3), 2) := by decide +kernel
theorem dX8_type_28 : decode cX8_type 28 = .ok (.ireturn, 1) := by decide +kernel
theorem dX8_type_29 : decode cX8_type 29 = .ok (.aload_n 0, 1) := by decide +kernel
theorem dX8_type_30 : decode cX8_type 30 = .ok (.getfield 10, 3) := by decide +kernel
theorem dX8_type_33 : decode cX8_type 33 = .ok (.getfield 76, 3) := by decide +kernel
theorem dX8_type_36 : decode cX8_type 36 = .ok (.aload_n 0, 1) := by decide +kernel
theorem dX8_type_37 : decode cX8_type 37 = .ok (.getfield 10, 3) := by decide +kernel
theorem dX8_type_40 : decode cX8_type 40 = .ok (.getfield 72, 3) := by decide +kernel
theorem dX8_type_43 : decode cX8_type 43 = .ok (.iload_n 1, 1) := by decide +kernel
theorem dX8_type_44 : decode cX8_type 44 = .ok (.iastore, 1) := by decide +kernel
theorem dX8_type_45 : decode cX8_type 45 = .ok (.aload_n 0, 1) := by decide +kernel
theorem dX8_type_46 : decode cX8_type 46 = .ok (.getfield 10, 3) := by decide +kernel
theorem dX8_type_49 : decode cX8_type 49 = .ok (.dup, 1) := by decide +kernel
theorem dX8_type_50 : decode cX8_type 50 = .ok (.getfield 72, 3) := by decide +kernel
theorem dX8_type_53 : decode cX8_type 53 = .ok (.iconst 1, 1) := by decide +kernel
theorem dX8_type_54 : decode cX8_type 54 = .ok (.iadd, 1) := by decide +kernel
theorem dX8_type_55 : decode cX8_type 55 = .ok (.putfield 72, 3) := by decide +kernel
theorem dX8_type_58 : decode cX8_type 58 = .ok (.aload_n 0, 1) := by decide +kernel
theorem dX8_type_59 : decode cX8_type 59 = .ok (.getfield 10, 3) := by decide +kernel
theorem dX8_type_62 : decode cX8_type 62 = .ok (.getfield 72, 3) := by decide +kernel
theorem dX8_type_65 : decode cX8_type 65 = .ok (.ireturn, 1) := by decide +kernel
theorem dX8_clear_0 : decode cX8_clear 0 = .ok (.aload_n 0, 1) := by decide +kernel
theorem dX8_clear_1 : decode cX8_clear 1 = .ok (.getfield 10, 3) := by decide +kernel
theorem dX8_clear_4 : decode cX8_clear 4 = .ok (.getfield 72, 3) := by decide +kernel
theorem dX8_clear_7 : decode cX8_clear 7 = .ok (.istore_n 1, 1) := by decide +kernel
theorem dX8_clear_8 : decode cX8_clear 8 = .ok (.aload_n 0, 1) := by decide +kernel
theorem dX8_clear_9 : decode cX8_clear 9 = .ok (.getfield 10, 3) := by decide +kernel
theorem dX8_clear_12 : decode cX8_clear 12 = .ok (.iconst 0, 1) := by decide +kernel
theorem dX8_clear_13 : decode cX8_clear 13 = .ok (.putfield 72, 3) := by decide +kernel
theorem dX8_clear_16 : decode cX8_clear 16 = .ok (.iload_n 1, 1) := by decide +kernel
theorem dX8_clear_17 : decode cX8_clear 17 = .ok (.ireturn, 1) := by decide +kernel
set_option maxRecDepth 20000 in
theorem ggX8_house_X7_readInto : GoodIn wsX8_house wsX7_readInto := goodIn_r _ [16, 17, 18, 19, 20, 21, 22, 23, 24, 25, 26, 15, 27, 28, 29, 30, 31, 32, 33, 34, 35, 36, 37, 38, 39, 40, 41, 42, 43, 44, 45, 46, 47, 48, 49, 50, 51, 52, 53, 54, 55, 56, 57, 58, 59, 60, 61, 62, 63, 64, 65, 66, 67, 68, 69, 70, 71, 111, 112, 113, 114, 115, 116, 117, 118, 119, 120, 97, 98, 99, 100, 101, 102] (by decide +kernel) (by decide +kernel)
set_option maxRecDepth 20000 in
theorem gX8_house_X7_readInto : GoodIn wsX8_house (wsV RX8 79 RX7 yX7_readInto wsX7_readInto) := goodIn_app (goodIn_of _ (by decide +kernel)) ggX8_house_X7_readInto
set_option maxRecDepth 20000 in
theorem ggX8_house_X5_begin : GoodIn wsX8_house wsX5_begin := goodIn_r _ [76, 77, 78, 79, 80, 81, 82, 83, 84, 85, 121, 122, 123, 124, 125] (by decide +kernel) (by decide +kernel)
set_option maxRecDepth 20000 in
theorem gX8_house_X5_begin : GoodIn wsX8_house (wsV RX8 83 RX5 yX5_begin wsX5_begin) := goodIn_app (goodIn_of _ (by decide +kernel)) ggX8_house_X5_begin
theorem dX8_house_0 : decode cX8_house 0 = .ok (.aload_n 0, 1) := by decide +kernel
theorem dX8_house_1 : decode cX8_house 1 = .ok (.getfield 10, 3) := by decide +kernel
theorem dX8_house_4 : decode cX8_house 4 = .ok (.aload_n 0, 1) := by decide +kernel
theorem dX8_house_5 : decode cX8_house 5 = .ok (.getfield 23, 3) := by decide +kernel
theorem dX8_house_8 : decode cX8_house 8 = .ok (.invokevirtual 79, 3) := by decide +kernel
theorem dX8_house_11 : decode cX8_house 11 = .ok (.istore_n 1, 1) := by decide +kernel
theorem dX8_house_12 : decode cX8_house 12 = .ok (.iload_n 1, 1) := by decide +kernel
theorem dX8_house_13 : decode cX8_house 13 = .ok (.ifCond .ge 5, 3) := by decide +kernel
theorem dX8_house_16 : decode cX8_house 16 = .ok (.iload_n 1, 1) := by decide +kernel
theorem dX8_house_17 : decode cX8_house 17 = .ok (.ireturn, 1) := by decide +kernel
theorem dX8_house_18 : decode cX8_house 18 = .ok (.aload_n 0, 1) := by decide +kernel
theorem dX8_house_19 : decode cX8_house 19 = .ok (.getfield 19, 3) := by decide +kernel
theorem dX8_house_22 : decode cX8_house 22 = .ok (.astore_n 2, 1) := by decide +kernel
theorem dX8_house_23 : decode cX8_house 23 = .ok (.aload_n 0, 1) := by decide +kernel
theorem dX8_house_24 : decode cX8_house 24 = .ok (.aload_n 0, 1) := by decide +kernel
theorem dX8_house_25 : decode cX8_house 25 = .ok (.getfield 23, 3) := by decide +kernel
theorem dX8_house_28 : decode cX8_house 28 = .ok (.putfield 19, 3) := by decide +kernel
theorem dX8_house_31 : decode cX8_house 31 = .ok (.aload_n 0, 1) := by decide +kernel
theorem dX8_house_32 : decode cX8_house 32 = .ok (.aload_n 2, 1) := by decide +kernel
theorem dX8_house_33 : decode cX8_house 33 = .ok (.putfield 23, 3) := by decide +kernel
theorem dX8_house_36 : decode cX8_house 36 = .ok (.aload_n 0, 1) := by decide +kernel
theorem dX8_house_37 : decode cX8_house 37 = .ok (.getfield 10, 3) := by decide +kernel
theorem dX8_house_40 : decode cX8_house 40 = .ok (.iconst 0, 1) := by decide +kernel
theorem dX8_house_41 : decode cX8_house 41 = .ok (.putfield 72, 3) := by decide +kernel
theorem dX8_house_44 : decode cX8_house 44 = .ok (.aload_n 0, 1) := by decide +kernel
theorem dX8_house_45 : decode cX8_house 45 = .ok (.getfield 29, 3) := by decide +kernel
theorem dX8_house_48 : decode cX8_house 48 = .ok (.invokevirtual 83, 3) := by decide +kernel
theorem dX8_house_51 : decode cX8_house 51 = .ok (.aload_n 0, 1) := by decide +kernel
theorem dX8_house_52 : decode cX8_house 52 = .ok (.getfield 36, 3) := by decide +kernel
theorem dX8_house_55 : decode cX8_house 55 = .ok (.iconst 0, 1) := by decide +kernel
theorem dX8_house_56 : decode cX8_house 56 = .ok (.putfield 86, 3) := by decide +kernel
theorem dX8_house_59 : decode cX8_house 59 = .ok (.aload_n 0, 1) := by decide +kernel
theorem dX8_house_60 : decode cX8_house 60 = .ok (.getfield 49, 3) := by decide +kernel
theorem dX8_house_63 : decode cX8_house 63 = .ok (.iconst 0, 1) := by decide +kernel
theorem dX8_house_64 : decode cX8_house 64 = .ok (.putfield 89, 3) := by decide +kernel
theorem dX8_house_67 : decode cX8_house 67 = .ok (.iconst 0, 1) := by decide +kernel
theorem dX8_house_68 : decode cX8_house 68 = .ok (.istore_n 3, 1) := by decide +kernel
theorem dX8_house_69 : decode cX8_house 69 = .ok (.iload_n 3, 1) := by decide +kernel
theorem dX8_house_70 : decode cX8_house 70 = .ok (.iconst 2, 1) := by decide +kernel
theorem dX8_house_71 : decode cX8_house 71 = .ok (.if_icmp .ge 19, 3) := by decide +kernel
theorem dX8_house_74 : decode cX8_house 74 = .ok (.aload_n 0, 1) := by decide +kernel
theorem dX8_house_75 : decode cX8_house 75 = .ok (.getfield 42, 3) := by decide +kernel
theorem dX8_house_78 : decode cX8_house 78 = .ok (.iload_n 3, 1) := by decide +kernel
theorem dX8_house_79 : decode cX8_house 79 = .ok (.aaload, 1) := by decide +kernel
theorem dX8_house_80 : decode cX8_house 80 = .ok (.iconst 0, 1) := by decide +kernel
theorem dX8_house_81 : decode cX8_house 81 = .ok (.putfield 90, 3) := by decide +kernel
theorem dX8_house_84 : decode cX8_house 84 = .ok (.iinc 3 1, 3) := by decide +kernel
theorem dX8_house_87 : decode cX8_house 87 = .ok (.goto (-18), 3) := by decide +kernel
theorem dX8_house_90 : decode cX8_house 90 = .ok (.iload_n 1, 1) := by decide +kernel
theorem dX8_house_91 : decode cX8_house 91 = .ok (.ireturn, 1) := by decide +kernel
set_option maxRecDepth 20000 in
theorem ggX8_room_X2_hasRoom : GoodIn wsX8_room wsX2_hasRoom := goodIn_r _ [8, 9, 47, 48, 49, 50, 51, 52, 53, 54, 55, 56] (by decide +kernel) (by decide +kernel)
set_option maxRecDepth 20000 in
theorem gX8_room_X2_hasRoom : GoodIn wsX8_room (wsV RX8 94 RX2 yX2_hasRoom wsX2_hasRoom) := goodIn_app (goodIn_of _ (by decide +kernel)) ggX8_room_X2_hasRoom
set_option maxRecDepth 20000 in
theorem ggX8_room_X5_dweller : GoodIn wsX8_room wsX5_dweller := goodIn_r _ [14, 15, 57, 58, 59, 60, 61] (by decide +kernel) (by decide +kernel)
set_option maxRecDepth 20000 in
theorem gX8_room_X5_dweller : GoodIn wsX8_room (wsV RX8 101 RX5 yX5_dweller wsX5_dweller) := goodIn_app (goodIn_of _ (by decide +kernel)) ggX8_room_X5_dweller
set_option maxRecDepth 20000 in
theorem ggX8_room_X2_whoMeets : GoodIn wsX8_room wsX2_whoMeets := goodIn_r _ [19, 20, 21, 22, 23, 7, 24, 25, 26, 27, 28, 29, 30, 31, 32, 33, 34, 35, 47, 48, 49, 50, 51, 52, 53, 54, 55, 56] (by decide +kernel) (by decide +kernel)
set_option maxRecDepth 20000 in
theorem gX8_room_X2_whoMeets : GoodIn wsX8_room (wsV RX8 105 RX2 yX2_whoMeets wsX2_whoMeets) := goodIn_app (goodIn_of _ (by decide +kernel)) ggX8_room_X2_whoMeets
theorem dX8_room_0 : decode cX8_room 0 = .ok (.aload_n 0, 1) := by decide +kernel
theorem dX8_room_1 : decode cX8_room 1 = .ok (.getfield 19, 3) := by decide +kernel
theorem dX8_room_4 : decode cX8_room 4 = .ok (.iload_n 1, 1) := by decide +kernel
theorem dX8_room_5 : decode cX8_room 5 = .ok (.invokevirtual 94, 3) := by decide +kernel
theorem dX8_room_8 : decode cX8_room 8 = .ok (.ifCond .ne 5, 3) := by decide +kernel
theorem dX8_room_11 : decode cX8_room 11 = .ok (.iconst (-1), 1) := by decide +kernel
theorem dX8_room_12 : decode cX8_room 12 = .ok (.ireturn, 1) := by decide +kernel
theorem dX8_room_13 : decode cX8_room 13 = .ok (.iload_n 2, 1) := by decide +kernel
theorem dX8_room_14 : decode cX8_room 14 = .ok (.tableswitch 54 0 2 #[26, 36, 45], 26) := by decide +kernel
theorem dX8_room_40 : decode cX8_room 40 = .ok (.aload_n 0, 1) := by decide +kernel
theorem dX8_room_41 : decode cX8_room 41 = .ok (.getfield 19, 3) := by decide +kernel
theorem dX8_room_44 : decode cX8_room 44 = .ok (.getfield 98, 3) := by decide +kernel
theorem dX8_room_47 : decode cX8_room 47 = .ok (.iload_n 1, 1) := by decide +kernel
theorem dX8_room_48 : decode cX8_room 48 = .ok (.iaload, 1) := by decide +kernel
theorem dX8_room_49 : decode cX8_room 49 = .ok (.ireturn, 1) := by decide +kernel
theorem dX8_room_50 : decode cX8_room 50 = .ok (.aload_n 0, 1) := by decide +kernel
theorem dX8_room_51 : decode cX8_room 51 = .ok (.getfield 29, 3) := by decide +kernel
theorem dX8_room_54 : decode cX8_room 54 = .ok (.iload_n 1, 1) := by decide +kernel
theorem dX8_room_55 : decode cX8_room 55 = .ok (.invokevirtual 101, 3) := by decide +kernel
theorem dX8_room_58 : decode cX8_room 58 = .ok (.ireturn, 1) := by decide +kernel
theorem dX8_room_59 : decode cX8_room 59 = .ok (.aload_n 0, 1) := by decide +kernel
theorem dX8_room_60 : decode cX8_room 60 = .ok (.getfield 19, 3) := by decide +kernel
theorem dX8_room_63 : decode cX8_room 63 = .ok (.iload_n 1, 1) := by decide +kernel
theorem dX8_room_64 : decode cX8_room 64 = .ok (.invokevirtual 105, 3) := by decide +kernel
theorem dX8_room_67 : decode cX8_room 67 = .ok (.ireturn, 1) := by decide +kernel
theorem dX8_room_68 : decode cX8_room 68 = .ok (.iconst (-1), 1) := by decide +kernel
theorem dX8_room_69 : decode cX8_room 69 = .ok (.ireturn, 1) := by decide +kernel
set_option maxRecDepth 20000 in
theorem ggX8_tenant_X2_hasTenant : GoodIn wsX8_tenant wsX2_hasTenant := goodIn_r _ [16, 17, 43, 44, 45, 46, 47, 48, 49, 50, 51, 52] (by decide +kernel) (by decide +kernel)
set_option maxRecDepth 20000 in
theorem gX8_tenant_X2_hasTenant : GoodIn wsX8_tenant (wsV RX8 108 RX2 yX2_hasTenant wsX2_hasTenant) := goodIn_app (goodIn_of _ (by decide +kernel)) ggX8_tenant_X2_hasTenant
set_option maxRecDepth 20000 in
theorem ggX8_tenant_X8_silentHours : GoodIn wsX8_tenant wsX8_silentHours := goodIn_r _ [22, 1, 6, 9, 23, 24, 25, 26, 27, 28, 29, 15, 30, 31, 32, 33, 34, 35, 36, 37, 38, 39, 40, 41, 42, 53, 54, 55, 56, 57, 43, 44, 45, 46, 47, 48, 49, 50, 51, 52] (by decide +kernel) (by decide +kernel)
set_option maxRecDepth 20000 in
theorem gX8_tenant_X8_silentHours : GoodIn wsX8_tenant (wsV RX8 135 RX8 yX8_silentHours wsX8_silentHours) := goodIn_app (goodIn_of _ (by decide +kernel)) ggX8_tenant_X8_silentHours
theorem dX8_tenant_0 : decode cX8_tenant 0 = .ok (.aload_n 0, 1) := by decide +kernel
theorem dX8_tenant_1 : decode cX8_tenant 1 = .ok (.getfield 19, 3) := by decide +kernel
theorem dX8_tenant_4 : decode cX8_tenant 4 = .ok (.iload_n 1, 1) := by decide +kernel
theorem dX8_tenant_5 : decode cX8_tenant 5 = .ok (.invokevirtual 108, 3) := by decide +kernel
theorem dX8_tenant_8 : decode cX8_tenant 8 = .ok (.ifCond .ne 5, 3) := by decide +kernel
theorem dX8_tenant_11 : decode cX8_tenant 11 = .ok (.iconst (-1), 1) := by decide +kernel
theorem dX8_tenant_12 : decode cX8_tenant 12 = .ok (.ireturn, 1) := by decide +kernel
theorem dX8_tenant_13 : decode cX8_tenant 13 = .ok (.iload_n 2, 1) := by decide +kernel
theorem dX8_tenant_14 : decode cX8_tenant 14 = .ok (.tableswitch 150 0 9 #[54, 64, 74, 84, 94, 104, 114, 124, 134, 140], 54) := by decide +kernel
theorem dX8_tenant_68 : decode cX8_tenant 68 = .ok (.aload_n 0, 1) := by decide +kernel
theorem dX8_tenant_69 : decode cX8_tenant 69 = .ok (.getfield 19, 3) := by decide +kernel
theorem dX8_tenant_72 : decode cX8_tenant 72 = .ok (.getfield 111, 3) := by decide +kernel
theorem dX8_tenant_75 : decode cX8_tenant 75 = .ok (.iload_n 1, 1) := by decide +kernel
theorem dX8_tenant_76 : decode cX8_tenant 76 = .ok (.iaload, 1) := by decide +kernel
theorem dX8_tenant_77 : decode cX8_tenant 77 = .ok (.ireturn, 1) := by decide +kernel
theorem dX8_tenant_78 : decode cX8_tenant 78 = .ok (.aload_n 0, 1) := by decide +kernel
theorem dX8_tenant_79 : decode cX8_tenant 79 = .ok (.getfield 19, 3) := by decide +kernel
theorem dX8_tenant_82 : decode cX8_tenant 82 = .ok (.getfield 114, 3) := by decide +kernel
theorem dX8_tenant_85 : decode cX8_tenant 85 = .ok (.iload_n 1, 1) := by decide +kernel
theorem dX8_tenant_86 : decode cX8_tenant 86 = .ok (.iaload, 1) := by decide +kernel
theorem dX8_tenant_87 : decode cX8_tenant 87 = .ok (.ireturn, 1) := by decide +kernel
theorem dX8_tenant_88 : decode cX8_tenant 88 = .ok (.aload_n 0, 1) := by decide +kernel
theorem dX8_tenant_89 : decode cX8_tenant 89 = .ok (.getfield 19, 3) := by decide +kernel
theorem dX8_tenant_92 : decode cX8_tenant 92 = .ok (.getfield 117, 3) := by decide +kernel
theorem dX8_tenant_95 : decode cX8_tenant 95 = .ok (.iload_n 1, 1) := by decide +kernel
theorem dX8_tenant_96 : decode cX8_tenant 96 = .ok (.iaload, 1) := by decide +kernel
theorem dX8_tenant_97 : decode cX8_tenant 97 = .ok (.ireturn, 1) := by decide +kernel
theorem dX8_tenant_98 : decode cX8_tenant 98 = .ok (.aload_n 0, 1) := by decide +kernel
theorem dX8_tenant_99 : decode cX8_tenant 99 = .ok (.getfield 19, 3) := by decide +kernel
theorem dX8_tenant_102 : decode cX8_tenant 102 = .ok (.getfield 120, 3) := by decide +kernel
theorem dX8_tenant_105 : decode cX8_tenant 105 = .ok (.iload_n 1, 1) := by decide +kernel
theorem dX8_tenant_106 : decode cX8_tenant 106 = .ok (.iaload, 1) := by decide +kernel
theorem dX8_tenant_107 : decode cX8_tenant 107 = .ok (.ireturn, 1) := by decide +kernel
theorem dX8_tenant_108 : decode cX8_tenant 108 = .ok (.aload_n 0, 1) := by decide +kernel
theorem dX8_tenant_109 : decode cX8_tenant 109 = .ok (.getfield 29, 3) := by decide +kernel
theorem dX8_tenant_112 : decode cX8_tenant 112 = .ok (.getfield 123, 3) := by decide +kernel
theorem dX8_tenant_115 : decode cX8_tenant 115 = .ok (.iload_n 1, 1) := by decide +kernel
theorem dX8_tenant_116 : decode cX8_tenant 116 = .ok (.iaload, 1) := by decide +kernel
theorem dX8_tenant_117 : decode cX8_tenant 117 = .ok (.ireturn, 1) := by decide +kernel
theorem dX8_tenant_118 : decode cX8_tenant 118 = .ok (.aload_n 0, 1) := by decide +kernel
theorem dX8_tenant_119 : decode cX8_tenant 119 = .ok (.getfield 29, 3) := by decide +kernel
theorem dX8_tenant_122 : decode cX8_tenant 122 = .ok (.getfield 126, 3) := by decide +kernel
theorem dX8_tenant_125 : decode cX8_tenant 125 = .ok (.iload_n 1, 1) := by decide +kernel
theorem dX8_tenant_126 : decode cX8_tenant 126 = .ok (.iaload, 1) := by decide +kernel
theorem dX8_tenant_127 : decode cX8_tenant 127 = .ok (.ireturn, 1) := by decide +kernel
theorem dX8_tenant_128 : decode cX8_tenant 128 = .ok (.aload_n 0, 1) := by decide +kernel
theorem dX8_tenant_129 : decode cX8_tenant 129 = .ok (.getfield 29, 3) := by decide +kernel
theorem dX8_tenant_132 : decode cX8_tenant 132 = .ok (.getfield 129, 3) := by decide +kernel
theorem dX8_tenant_135 : decode cX8_tenant 135 = .ok (.iload_n 1, 1) := by decide +kernel
theorem dX8_tenant_136 : decode cX8_tenant 136 = .ok (.iaload, 1) := by decide +kernel
theorem dX8_tenant_137 : decode cX8_tenant 137 = .ok (.ireturn, 1) := by decide +kernel
theorem dX8_tenant_138 : decode cX8_tenant 138 = .ok (.aload_n 0, 1) := by decide +kernel
theorem dX8_tenant_139 : decode cX8_tenant 139 = .ok (.getfield 29, 3) := by decide +kernel
theorem dX8_tenant_142 : decode cX8_tenant 142 = .ok (.getfield 132, 3) := by decide +kernel
theorem dX8_tenant_145 : decode cX8_tenant 145 = .ok (.iload_n 1, 1) := by decide +kernel
theorem dX8_tenant_146 : decode cX8_tenant 146 = .ok (.iaload, 1) := by decide +kernel
theorem dX8_tenant_147 : decode cX8_tenant 147 = .ok (.ireturn, 1) := by decide +kernel
theorem dX8_tenant_148 : decode cX8_tenant 148 = .ok (.aload_n 0, 1) := by decide +kernel
theorem dX8_tenant_149 : decode cX8_tenant 149 = .ok (.iload_n 1, 1) := by decide +kernel
theorem dX8_tenant_150 : decode cX8_tenant 150 = .ok (.invokevirtual 135, 3) := by decide +kernel
theorem dX8_tenant_153 : decode cX8_tenant 153 = .ok (.ireturn, 1) := by decide +kernel
theorem dX8_tenant_154 : decode cX8_tenant 154 = .ok (.aload_n 0, 1) := by decide +kernel
theorem dX8_tenant_155 : decode cX8_tenant 155 = .ok (.getfield 19, 3) := by decide +kernel
theorem dX8_tenant_158 : decode cX8_tenant 158 = .ok (.getfield 138, 3) := by decide +kernel
theorem dX8_tenant_161 : decode cX8_tenant 161 = .ok (.iload_n 1, 1) := by decide +kernel
theorem dX8_tenant_162 : decode cX8_tenant 162 = .ok (.iaload, 1) := by decide +kernel
theorem dX8_tenant_163 : decode cX8_tenant 163 = .ok (.ireturn, 1) := by decide +kernel
theorem dX8_tenant_164 : decode cX8_tenant 164 = .ok (.iconst (-1), 1) := by decide +kernel
theorem dX8_tenant_165 : decode cX8_tenant 165 = .ok (.ireturn, 1) := by decide +kernel
set_option maxRecDepth 20000 in
theorem ggX8_chair_X2_hasChair : GoodIn wsX8_chair wsX2_hasChair := goodIn_r _ [7, 8, 25, 26, 27, 28, 29, 30, 31, 32, 33, 34] (by decide +kernel) (by decide +kernel)
set_option maxRecDepth 20000 in
theorem gX8_chair_X2_hasChair : GoodIn wsX8_chair (wsV RX8 141 RX2 yX2_hasChair wsX2_hasChair) := goodIn_app (goodIn_of _ (by decide +kernel)) ggX8_chair_X2_hasChair
set_option maxRecDepth 20000 in
theorem ggX8_chair_X2_everybody : GoodIn wsX8_chair wsX2_everybody := goodIn_r _ [12, 13, 25, 26, 27, 28, 29, 30, 31, 32, 33, 34] (by decide +kernel) (by decide +kernel)
set_option maxRecDepth 20000 in
theorem gX8_chair_X2_everybody : GoodIn wsX8_chair (wsV RX8 147 RX2 yX2_everybody wsX2_everybody) := goodIn_app (goodIn_of _ (by decide +kernel)) ggX8_chair_X2_everybody
theorem dX8_chair_0 : decode cX8_chair 0 = .ok (.aload_n 0, 1) := by decide +kernel
theorem dX8_chair_1 : decode cX8_chair 1 = .ok (.getfield 19, 3) := by decide +kernel
theorem dX8_chair_4 : decode cX8_chair 4 = .ok (.iload_n 1, 1) := by decide +kernel
theorem dX8_chair_5 : decode cX8_chair 5 = .ok (.invokevirtual 141, 3) := by decide +kernel
theorem dX8_chair_8 : decode cX8_chair 8 = .ok (.ifCond .ne 5, 3) := by decide +kernel
theorem dX8_chair_11 : decode cX8_chair 11 = .ok (.iconst (-1), 1) := by decide +kernel
theorem dX8_chair_12 : decode cX8_chair 12 = .ok (.ireturn, 1) := by decide +kernel
theorem dX8_chair_13 : decode cX8_chair 13 = .ok (.aload_n 0, 1) := by decide +kernel
theorem dX8_chair_14 : decode cX8_chair 14 = .ok (.getfield 19, 3) := by decide +kernel
theorem dX8_chair_17 : decode cX8_chair 17 = .ok (.getfield 144, 3) := by decide +kernel
theorem dX8_chair_20 : decode cX8_chair 20 = .ok (.iload_n 1, 1) := by decide +kernel
theorem dX8_chair_21 : decode cX8_chair 21 = .ok (.iaload, 1) := by decide +kernel
theorem dX8_chair_22 : decode cX8_chair 22 = .ok (.aload_n 0, 1) := by decide +kernel
theorem dX8_chair_23 : decode cX8_chair 23 = .ok (.getfield 19, 3) := by decide +kernel
theorem dX8_chair_26 : decode cX8_chair 26 = .ok (.invokevirtual 147, 3) := by decide +kernel
theorem dX8_chair_29 : decode cX8_chair 29 = .ok (.iand, 1) := by decide +kernel
theorem dX8_chair_30 : decode cX8_chair 30 = .ok (.ireturn, 1) := by decide +kernel
set_option maxRecDepth 20000 in
theorem ggX8_moves_X2_hasTenant : GoodIn wsX8_moves wsX2_hasTenant := goodIn_r _ [9, 10, 61, 62, 63, 64, 65, 66, 67, 68, 69, 70] (by decide +kernel) (by decide +kernel)
set_option maxRecDepth 20000 in
theorem gX8_moves_X2_hasTenant : GoodIn wsX8_moves (wsV RX8 108 RX2 yX2_hasTenant wsX2_hasTenant) := goodIn_app (goodIn_of _ (by decide +kernel)) ggX8_moves_X2_hasTenant
set_option maxRecDepth 20000 in
theorem ggX8_moves_X2_hasRoom : GoodIn wsX8_moves wsX2_hasRoom := goodIn_r _ [14, 15, 61, 62, 63, 64, 65, 66, 67, 68, 69, 70] (by decide +kernel) (by decide +kernel)
set_option maxRecDepth 20000 in
theorem gX8_moves_X2_hasRoom : GoodIn wsX8_moves (wsV RX8 94 RX2 yX2_hasRoom wsX2_hasRoom) := goodIn_app (goodIn_of _ (by decide +kernel)) ggX8_moves_X2_hasRoom
set_option maxRecDepth 20000 in
theorem ggX8_moves_X5_dweller : GoodIn wsX8_moves wsX5_dweller := goodIn_r _ [20, 21, 56, 57, 58, 59, 60] (by decide +kernel) (by decide +kernel)
set_option maxRecDepth 20000 in
theorem gX8_moves_X5_dweller : GoodIn wsX8_moves (wsV RX8 101 RX5 yX5_dweller wsX5_dweller) := goodIn_app (goodIn_of _ (by decide +kernel)) ggX8_moves_X5_dweller
set_option maxRecDepth 20000 in
theorem ggX8_moves_X6_push : GoodIn wsX8_moves wsX6_push := goodIn_r _ [26, 27, 28, 29, 30, 31, 25, 32, 33, 34, 35, 19, 36, 37, 21, 38, 39, 40, 41, 42, 43, 44, 71, 72, 56, 57, 58, 59, 60] (by decide +kernel) (by decide +kernel)
set_option maxRecDepth 20000 in
theorem gX8_moves_X6_push : GoodIn wsX8_moves (wsV RX8 151 RX6 yX6_push wsX6_push) := goodIn_app (goodIn_of _ (by decide +kernel)) ggX8_moves_X6_push
theorem dX8_moves_0 : decode cX8_moves 0 = .ok (.aload_n 0, 1) := by decide +kernel
theorem dX8_moves_1 : decode cX8_moves 1 = .ok (.getfield 19, 3) := by decide +kernel
theorem dX8_moves_4 : decode cX8_moves 4 = .ok (.iload_n 1, 1) := by decide +kernel
theorem dX8_moves_5 : decode cX8_moves 5 = .ok (.invokevirtual 108, 3) := by decide +kernel
theorem dX8_moves_8 : decode cX8_moves 8 = .ok (.ifCond .eq 19, 3) := by decide +kernel
theorem dX8_moves_11 : decode cX8_moves 11 = .ok (.iload_n 2, 1) := by decide +kernel
theorem dX8_moves_12 : decode cX8_moves 12 = .ok (.iconst (-1), 1) := by decide +kernel
theorem dX8_moves_13 : decode cX8_moves 13 = .ok (.if_icmp .eq 16, 3) := by decide +kernel
theorem dX8_moves_16 : decode cX8_moves 16 = .ok (.aload_n 0, 1) := by decide +kernel
theorem dX8_moves_17 : decode cX8_moves 17 = .ok (.getfield 19, 3) := by decide +kernel
theorem dX8_moves_20 : decode cX8_moves 20 = .ok (.iload_n 2, 1) := by decide +kernel
theorem dX8_moves_21 : decode cX8_moves 21 = .ok (.invokevirtual 94, 3) := by decide +kernel
theorem dX8_moves_24 : decode cX8_moves 24 = .ok (.ifCond .ne 5, 3) := by decide +kernel
theorem dX8_moves_27 : decode cX8_moves 27 = .ok (.iconst (-1), 1) := by decide +kernel
theorem dX8_moves_28 : decode cX8_moves 28 = .ok (.ireturn, 1) := by decide +kernel
theorem dX8_moves_29 : decode cX8_moves 29 = .ok (.aload_n 0, 1) := by decide +kernel
theorem dX8_moves_30 : decode cX8_moves 30 = .ok (.getfield 29, 3) := by decide +kernel
theorem dX8_moves_33 : decode cX8_moves 33 = .ok (.getfield 123, 3) := by decide +kernel
theorem dX8_moves_36 : decode cX8_moves 36 = .ok (.iload_n 1, 1) := by decide +kernel
theorem dX8_moves_37 : decode cX8_moves 37 = .ok (.iaload, 1) := by decide +kernel
theorem dX8_moves_38 : decode cX8_moves 38 = .ok (.istore_n 3, 1) := by decide +kernel
theorem dX8_moves_39 : decode cX8_moves 39 = .ok (.iload_n 2, 1) := by decide +kernel
theorem dX8_moves_40 : decode cX8_moves 40 = .ok (.iconst (-1), 1) := by decide +kernel
theorem dX8_moves_41 : decode cX8_moves 41 = .ok (.if_icmp .ne 8, 3) := by decide +kernel
theorem dX8_moves_44 : decode cX8_moves 44 = .ok (.bipush (-9), 2) := by decide +kernel
theorem dX8_moves_46 : decode cX8_moves 46 = .ok (.goto 4, 3) := by decide +kernel
theorem dX8_moves_49 : decode cX8_moves 49 = .ok (.iload_n 2, 1) := by decide +kernel
theorem dX8_moves_50 : decode cX8_moves 50 = .ok (.istore 4, 2) := by decide +kernel
theorem dX8_moves_52 : decode cX8_moves 52 = .ok (.iload_n 3, 1) := by decide +kernel
theorem dX8_moves_53 : decode cX8_moves 53 = .ok (.iload 4, 2) := by decide +kernel
theorem dX8_moves_55 : decode cX8_moves 55 = .ok (.if_icmp .eq 21, 3) := by decide +kernel
theorem dX8_moves_58 : decode cX8_moves 58 = .ok (.iload_n 2, 1) := by decide +kernel
theorem dX8_moves_59 : decode cX8_moves 59 = .ok (.iconst (-1), 1) := by decide +kernel
theorem dX8_moves_60 : decode cX8_moves 60 = .ok (.if_icmp .eq 19, 3) := by decide +kernel
theorem dX8_moves_63 : decode cX8_moves 63 = .ok (.aload_n 0, 1) := by decide +kernel
theorem dX8_moves_64 : decode cX8_moves 64 = .ok (.getfield 29, 3) := by decide +kernel
theorem dX8_moves_67 : decode cX8_moves 67 = .ok (.iload_n 2, 1) := by decide +kernel
theorem dX8_moves_68 : decode cX8_moves 68 = .ok (.invokevirtual 101, 3) := by decide +kernel
theorem dX8_moves_71 : decode cX8_moves 71 = .ok (.bipush (-9), 2) := by decide +kernel
theorem dX8_moves_73 : decode cX8_moves 73 = .ok (.if_icmp .eq 6, 3) := by decide +kernel
theorem dX8_moves_76 : decode cX8_moves 76 = .ok (.bipush (-2), 2) := by decide +kernel
theorem dX8_moves_78 : decode cX8_moves 78 = .ok (.ireturn, 1) := by decide +kernel
theorem dX8_moves_79 : decode cX8_moves 79 = .ok (.aload_n 0, 1) := by decide +kernel
theorem dX8_moves_80 : decode cX8_moves 80 = .ok (.getfield 36, 3) := by decide +kernel
theorem dX8_moves_83 : decode cX8_moves 83 = .ok (.aload_n 0, 1) := by decide +kernel
theorem dX8_moves_84 : decode cX8_moves 84 = .ok (.getfield 29, 3) := by decide +kernel
theorem dX8_moves_87 : decode cX8_moves 87 = .ok (.invokevirtual 151, 3) := by decide +kernel
theorem dX8_moves_90 : decode cX8_moves 90 = .ok (.aload_n 0, 1) := by decide +kernel
theorem dX8_moves_91 : decode cX8_moves 91 = .ok (.getfield 29, 3) := by decide +kernel
theorem dX8_moves_94 : decode cX8_moves 94 = .ok (.getfield 123, 3) := by decide +kernel
theorem dX8_moves_97 : decode cX8_moves 97 = .ok (.iload_n 1, 1) := by decide +kernel
theorem dX8_moves_98 : decode cX8_moves 98 = .ok (.iload 4, 2) := by decide +kernel
theorem dX8_moves_100 : decode cX8_moves 100 = .ok (.iastore, 1) := by decide +kernel
theorem dX8_moves_101 : decode cX8_moves 101 = .ok (.iload_n 3, 1) := by decide +kernel
theorem dX8_moves_102 : decode cX8_moves 102 = .ok (.ireturn, 1) := by decide +kernel
set_option maxRecDepth 20000 in
theorem ggX8_talks_X2_hasTenant : GoodIn wsX8_talks wsX2_hasTenant := goodIn_r _ [11, 12, 59, 60, 61, 62, 63, 64, 65, 66, 67, 68] (by decide +kernel) (by decide +kernel)
set_option maxRecDepth 20000 in
theorem gX8_talks_X2_hasTenant : GoodIn wsX8_talks (wsV RX8 108 RX2 yX2_hasTenant wsX2_hasTenant) := goodIn_app (goodIn_of _ (by decide +kernel)) ggX8_talks_X2_hasTenant
set_option maxRecDepth 20000 in
theorem ggX8_talks_X2_freeHours : GoodIn wsX8_talks wsX2_freeHours := goodIn_r _ [16, 17, 59, 60, 61, 62, 63, 64, 65, 66, 67, 68] (by decide +kernel) (by decide +kernel)
set_option maxRecDepth 20000 in
theorem gX8_talks_X2_freeHours : GoodIn wsX8_talks (wsV RX8 155 RX2 yX2_freeHours wsX2_freeHours) := goodIn_app (goodIn_of _ (by decide +kernel)) ggX8_talks_X2_freeHours
set_option maxRecDepth 20000 in
theorem ggX8_talks_X6_push : GoodIn wsX8_talks wsX6_push := goodIn_r _ [22, 23, 24, 25, 26, 27, 21, 28, 29, 30, 31, 32, 33, 34, 35, 36, 37, 38, 39, 40, 41, 42, 69, 70, 54, 55, 56, 57, 58] (by decide +kernel) (by decide +kernel)
set_option maxRecDepth 20000 in
theorem gX8_talks_X6_push : GoodIn wsX8_talks (wsV RX8 151 RX6 yX6_push wsX6_push) := goodIn_app (goodIn_of _ (by decide +kernel)) ggX8_talks_X6_push
theorem dX8_talks_0 : decode cX8_talks 0 = .ok (.aload_n 0, 1) := by decide +kernel
theorem dX8_talks_1 : decode cX8_talks 1 = .ok (.getfield 19, 3) := by decide +kernel
theorem dX8_talks_4 : decode cX8_talks 4 = .ok (.iload_n 1, 1) := by decide +kernel
theorem dX8_talks_5 : decode cX8_talks 5 = .ok (.invokevirtual 108, 3) := by decide +kernel
theorem dX8_talks_8 : decode cX8_talks 8 = .ok (.ifCond .eq 25, 3) := by decide +kernel
theorem dX8_talks_11 : decode cX8_talks 11 = .ok (.iload_n 2, 1) := by decide +kernel
theorem dX8_talks_12 : decode cX8_talks 12 = .ok (.iconst 1, 1) := by decide +kernel
theorem dX8_talks_13 : decode cX8_talks 13 = .ok (.if_icmp .lt 20, 3) := by decide +kernel
theorem dX8_talks_16 : decode cX8_talks 16 = .ok (.iload_n 2, 1) := by decide +kernel
theorem dX8_talks_17 : decode cX8_talks 17 = .ok (.bipush 24, 2) := by decide +kernel
theorem dX8_talks_19 : decode cX8_talks 19 = .ok (.if_icmp .gt 14, 3) := by decide +kernel
theorem dX8_talks_22 : decode cX8_talks 22 = .ok (.aload_n 0, 1) := by decide +kernel
theorem dX8_talks_23 : decode cX8_talks 23 = .ok (.getfield 19, 3) := by decide +kernel
theorem dX8_talks_26 : decode cX8_talks 26 = .ok (.iload_n 3, 1) := by decide +kernel
theorem dX8_talks_27 : decode cX8_talks 27 = .ok (.invokevirtual 108, 3) := by decide +kernel
theorem dX8_talks_30 : decode cX8_talks 30 = .ok (.ifCond .ne 5, 3) := by decide +kernel
theorem dX8_talks_33 : decode cX8_talks 33 = .ok (.iconst (-1), 1) := by decide +kernel
theorem dX8_talks_34 : decode cX8_talks 34 = .ok (.ireturn, 1) := by decide +kernel
theorem dX8_talks_35 : decode cX8_talks 35 = .ok (.aload_n 0, 1) := by decide +kernel
theorem dX8_talks_36 : decode cX8_talks 36 = .ok (.getfield 29, 3) := by decide +kernel
theorem dX8_talks_39 : decode cX8_talks 39 = .ok (.getfield 126, 3) := by decide +kernel
theorem dX8_talks_42 : decode cX8_talks 42 = .ok (.iload_n 1, 1) := by decide +kernel
theorem dX8_talks_43 : decode cX8_talks 43 = .ok (.iaload, 1) := by decide +kernel
theorem dX8_talks_44 : decode cX8_talks 44 = .ok (.iload_n 2, 1) := by decide +kernel
theorem dX8_talks_45 : decode cX8_talks 45 = .ok (.iadd, 1) := by decide +kernel
theorem dX8_talks_46 : decode cX8_talks 46 = .ok (.aload_n 0, 1) := by decide +kernel
theorem dX8_talks_47 : decode cX8_talks 47 = .ok (.getfield 19, 3) := by decide +kernel
theorem dX8_talks_50 : decode cX8_talks 50 = .ok (.iload_n 1, 1) := by decide +kernel
theorem dX8_talks_51 : decode cX8_talks 51 = .ok (.invokevirtual 155, 3) := by decide +kernel
theorem dX8_talks_54 : decode cX8_talks 54 = .ok (.if_icmp .le 7, 3) := by decide +kernel
theorem dX8_talks_57 : decode cX8_talks 57 = .ok (.iconst 1, 1) := by decide +kernel
theorem dX8_talks_58 : decode cX8_talks 58 = .ok (.goto 4, 3) := by decide +kernel
theorem dX8_talks_61 : decode cX8_talks 61 = .ok (.iconst 0, 1) := by decide +kernel
theorem dX8_talks_62 : decode cX8_talks 62 = .ok (.istore 4, 2) := by decide +kernel
theorem dX8_talks_64 : decode cX8_talks 64 = .ok (.iload_n 3, 1) := by decide +kernel
theorem dX8_talks_65 : decode cX8_talks 65 = .ok (.iload_n 1, 1) := by decide +kernel
theorem dX8_talks_66 : decode cX8_talks 66 = .ok (.if_icmp .eq 24, 3) := by decide +kernel
theorem dX8_talks_69 : decode cX8_talks 69 = .ok (.aload_n 0, 1) := by decide +kernel
theorem dX8_talks_70 : decode cX8_talks 70 = .ok (.getfield 19, 3) := by decide +kernel
theorem dX8_talks_73 : decode cX8_talks 73 = .ok (.getfield 117, 3) := by decide +kernel
theorem dX8_talks_76 : decode cX8_talks 76 = .ok (.iload_n 3, 1) := by decide +kernel
theorem dX8_talks_77 : decode cX8_talks 77 = .ok (.iaload, 1) := by decide +kernel
theorem dX8_talks_78 : decode cX8_talks 78 = .ok (.aload_n 0, 1) := by decide +kernel
theorem dX8_talks_79 : decode cX8_talks 79 = .ok (.getfield 19, 3) := by decide +kernel
theorem dX8_talks_82 : decode cX8_talks 82 = .ok (.getfield 117, 3) := by decide +kernel
theorem dX8_talks_85 : decode cX8_talks 85 = .ok (.iload_n 1, 1) := by decide +kernel
theorem dX8_talks_86 : decode cX8_talks 86 = .ok (.iaload, 1) := by decide +kernel
theorem dX8_talks_87 : decode cX8_talks 87 = .ok (.if_icmp .le 7, 3) := by decide +kernel
theorem dX8_talks_90 : decode cX8_talks 90 = .ok (.iconst 1, 1) := by decide +kernel
theorem dX8_talks_91 : decode cX8_talks 91 = .ok (.goto 4, 3) := by decide +kernel
theorem dX8_talks_94 : decode cX8_talks 94 = .ok (.iconst 0, 1) := by decide +kernel
theorem dX8_talks_95 : decode cX8_talks 95 = .ok (.istore 5, 2) := by decide +kernel
theorem dX8_talks_97 : decode cX8_talks 97 = .ok (.iload 4, 2) := by decide +kernel
theorem dX8_talks_99 : decode cX8_talks 99 = .ok (.ifCond .ne 8, 3) := by decide +kernel
theorem dX8_talks_102 : decode cX8_talks 102 = .ok (.iload 5, 2) := by decide +kernel
theorem dX8_talks_104 : decode cX8_talks 104 = .ok (.ifCond .ne 6, 3) := by decide +kernel
theorem dX8_talks_107 : decode cX8_talks 107 = .ok (.bipush (-2), 2) := by decide +kernel
theorem dX8_talks_109 : decode cX8_talks 109 = .ok (.ireturn, 1) := by decide +kernel
theorem dX8_talks_110 : decode cX8_talks 110 = .ok (.aload_n 0, 1) := by decide +kernel
theorem dX8_talks_111 : decode cX8_talks 111 = .ok (.getfield 36, 3) := by decide +kernel
theorem dX8_talks_114 : decode cX8_talks 114 = .ok (.aload_n 0, 1) := by decide +kernel
theorem dX8_talks_115 : decode cX8_talks 115 = .ok (.getfield 29, 3) := by decide +kernel
theorem dX8_talks_118 : decode cX8_talks 118 = .ok (.invokevirtual 151, 3) := by decide +kernel
theorem dX8_talks_121 : decode cX8_talks 121 = .ok (.aload_n 0, 1) := by decide +kernel
theorem dX8_talks_122 : decode cX8_talks 122 = .ok (.getfield 29, 3) := by decide +kernel
theorem dX8_talks_125 : decode cX8_talks 125 = .ok (.getfield 126, 3) := by decide +kernel
theorem dX8_talks_128 : decode cX8_talks 128 = .ok (.iload_n 1, 1) := by decide +kernel
theorem dX8_talks_129 : decode cX8_talks 129 = .ok (.dup2, 1) := by decide +kernel
theorem dX8_talks_130 : decode cX8_talks 130 = .ok (.iaload, 1) := by decide +kernel
theorem dX8_talks_131 : decode cX8_talks 131 = .ok (.iload_n 2, 1) := by decide +kernel
theorem dX8_talks_132 : decode cX8_talks 132 = .ok (.iadd, 1) := by decide +kernel
theorem dX8_talks_133 : decode cX8_talks 133 = .ok (.iastore, 1) := by decide +kernel
theorem dX8_talks_134 : decode cX8_talks 134 = .ok (.aload_n 0, 1) := by decide +kernel
theorem dX8_talks_135 : decode cX8_talks 135 = .ok (.getfield 29, 3) := by decide +kernel
theorem dX8_talks_138 : decode cX8_talks 138 = .ok (.getfield 129, 3) := by decide +kernel
theorem dX8_talks_141 : decode cX8_talks 141 = .ok (.iload_n 3, 1) := by decide +kernel
theorem dX8_talks_142 : decode cX8_talks 142 = .ok (.dup2, 1) := by decide +kernel
theorem dX8_talks_143 : decode cX8_talks 143 = .ok (.iaload, 1) := by decide +kernel
theorem dX8_talks_144 : decode cX8_talks 144 = .ok (.iload_n 2, 1) := by decide +kernel
theorem dX8_talks_145 : decode cX8_talks 145 = .ok (.iadd, 1) := by decide +kernel
theorem dX8_talks_146 : decode cX8_talks 146 = .ok (.iastore, 1) := by decide +kernel
theorem dX8_talks_147 : decode cX8_talks 147 = .ok (.aload_n 0, 1) := by decide +kernel
theorem dX8_talks_148 : decode cX8_talks 148 = .ok (.getfield 29, 3) := by decide +kernel
theorem dX8_talks_151 : decode cX8_talks 151 = .ok (.getfield 126, 3) := by decide +kernel
theorem dX8_talks_154 : decode cX8_talks 154 = .ok (.iload_n 1, 1) := by decide +kernel
theorem dX8_talks_155 : decode cX8_talks 155 = .ok (.iaload, 1) := by decide +kernel
theorem dX8_talks_156 : decode cX8_talks 156 = .ok (.ireturn, 1) := by decide +kernel
set_option maxRecDepth 20000 in
theorem ggX8_evening_X6_push : GoodIn wsX8_evening wsX6_push := goodIn_r _ [22, 23, 24, 25, 26, 27, 21, 28, 29, 30, 31, 32, 33, 34, 35, 36, 37, 38, 39, 40, 41, 42, 93, 94, 78, 79, 80, 81, 82] (by decide +kernel) (by decide +kernel)
set_option maxRecDepth 20000 in
theorem gX8_evening_X6_push : GoodIn wsX8_evening (wsV RX8 151 RX6 yX6_push wsX6_push) := goodIn_app (goodIn_of _ (by decide +kernel)) ggX8_evening_X6_push
set_option maxRecDepth 20000 in
theorem ggX8_evening_X2_hasRoom : GoodIn wsX8_evening wsX2_hasRoom := goodIn_r _ [47, 48, 83, 84, 85, 86, 87, 88, 89, 90, 91, 92] (by decide +kernel) (by decide +kernel)
set_option maxRecDepth 20000 in
theorem gX8_evening_X2_hasRoom : GoodIn wsX8_evening (wsV RX8 94 RX2 yX2_hasRoom wsX2_hasRoom) := goodIn_app (goodIn_of _ (by decide +kernel)) ggX8_evening_X2_hasRoom
set_option maxRecDepth 20000 in
theorem ggX8_evening_X8_silentHours : GoodIn wsX8_evening wsX8_silentHours := goodIn_r _ [53, 4, 1, 17, 13, 14, 11, 15, 54, 55, 56, 46, 57, 58, 67, 68, 69, 70, 71, 72, 73, 74, 75, 76, 77, 78, 79, 80, 81, 82, 83, 84, 85, 86, 87, 88, 89, 90, 91, 92] (by decide +kernel) (by decide +kernel)
set_option maxRecDepth 20000 in
theorem gX8_evening_X8_silentHours : GoodIn wsX8_evening (wsV RX8 135 RX8 yX8_silentHours wsX8_silentHours) := goodIn_app (goodIn_of _ (by decide +kernel)) ggX8_evening_X8_silentHours
set_option maxRecDepth 20000 in
theorem ggX8_evening_J7_fill_53178 : GoodIn wsX8_evening wsJ7_fill_53178 := goodIn_r _ [62] (by decide +kernel) (by decide +kernel)
set_option maxRecDepth 20000 in
theorem gX8_evening_J7_fill_53178 : GoodIn wsX8_evening (va_wsS RX8 173 yJ7_fill_53178 wsJ7_fill_53178) := goodIn_app (goodIn_of _ (by decide +kernel)) ggX8_evening_J7_fill_53178
set_option maxRecDepth 20000 in
theorem ggX8_evening_X5_allDebts : GoodIn wsX8_evening wsX5_allDebts := goodIn_r _ [66, 42, 78, 79, 80, 81, 82] (by decide +kernel) (by decide +kernel)
set_option maxRecDepth 20000 in
theorem gX8_evening_X5_allDebts : GoodIn wsX8_evening (wsV RX8 179 RX5 yX5_allDebts wsX5_allDebts) := goodIn_app (goodIn_of _ (by decide +kernel)) ggX8_evening_X5_allDebts
theorem dX8_evening_0 : decode cX8_evening 0 = .ok (.aload_n 0, 1) := by decide +kernel
theorem dX8_evening_1 : decode cX8_evening 1 = .ok (.getfield 29, 3) := by decide +kernel
theorem dX8_evening_4 : decode cX8_evening 4 = .ok (.getfield 158, 3) := by decide +kernel
theorem dX8_evening_7 : decode cX8_evening 7 = .ok (.bipush 99, 2) := by decide +kernel
theorem dX8_evening_9 : decode cX8_evening 9 = .ok (.if_icmp .lt 6, 3) := by decide +kernel
theorem dX8_evening_12 : decode cX8_evening 12 = .ok (.bipush (-2), 2) := by decide +kernel
theorem dX8_evening_14 : decode cX8_evening 14 = .ok (.ireturn, 1) := by decide +kernel
theorem dX8_evening_15 : decode cX8_evening 15 = .ok (.aload_n 0, 1) := by decide +kernel
theorem dX8_evening_16 : decode cX8_evening 16 = .ok (.getfield 36, 3) := by decide +kernel
theorem dX8_evening_19 : decode cX8_evening 19 = .ok (.aload_n 0, 1) := by decide +kernel
theorem dX8_evening_20 : decode cX8_evening 20 = .ok (.getfield 29, 3) := by decide +kernel
theorem dX8_evening_23 : decode cX8_evening 23 = .ok (.invokevirtual 151, 3) := by decide +kernel
theorem dX8_evening_26 : decode cX8_evening 26 = .ok (.iconst 0, 1) := by decide +kernel
theorem dX8_evening_27 : decode cX8_evening 27 = .ok (.istore_n 1, 1) := by decide +kernel
theorem dX8_evening_28 : decode cX8_evening 28 = .ok (.iload_n 1, 1) := by decide +kernel
theorem dX8_evening_29 : decode cX8_evening 29 = .ok (.aload_n 0, 1) := by decide +kernel
theorem dX8_evening_30 : decode cX8_evening 30 = .ok (.getfield 19, 3) := by decide +kernel
theorem dX8_evening_33 : decode cX8_evening 33 = .ok (.getfield 161, 3) := by decide +kernel
theorem dX8_evening_36 : decode cX8_evening 36 = .ok (.if_icmp .ge 82, 3) := by decide +kernel
theorem dX8_evening_39 : decode cX8_evening 39 = .ok (.aload_n 0, 1) := by decide +kernel
theorem dX8_evening_40 : decode cX8_evening 40 = .ok (.getfield 19, 3) := by decide +kernel
theorem dX8_evening_43 : decode cX8_evening 43 = .ok (.aload_n 0, 1) := by decide +kernel
theorem dX8_evening_44 : decode cX8_evening 44 = .ok (.getfield 29, 3) := by decide +kernel
theorem dX8_evening_47 : decode cX8_evening 47 = .ok (.getfield 123, 3) := by decide +kernel
theorem dX8_evening_50 : decode cX8_evening 50 = .ok (.iload_n 1, 1) := by decide +kernel
theorem dX8_evening_51 : decode cX8_evening 51 = .ok (.iaload, 1) := by decide +kernel
theorem dX8_evening_52 : decode cX8_evening 52 = .ok (.invokevirtual 94, 3) := by decide +kernel
theorem dX8_evening_55 : decode cX8_evening 55 = .ok (.ifCond .eq 57, 3) := by decide +kernel
theorem dX8_evening_58 : decode cX8_evening 58 = .ok (.aload_n 0, 1) := by decide +kernel
theorem dX8_evening_59 : decode cX8_evening 59 = .ok (.getfield 19, 3) := by decide +kernel
theorem dX8_evening_62 : decode cX8_evening 62 = .ok (.getfield 98, 3) := by decide +kernel
theorem dX8_evening_65 : decode cX8_evening 65 = .ok (.aload_n 0, 1) := by decide +kernel
theorem dX8_evening_66 : decode cX8_evening 66 = .ok (.getfield 29, 3) := by decide +kernel
theorem dX8_evening_69 : decode cX8_evening 69 = .ok (.getfield 123, 3) := by decide +kernel
theorem dX8_evening_72 : decode cX8_evening 72 = .ok (.iload_n 1, 1) := by decide +kernel
theorem dX8_evening_73 : decode cX8_evening 73 = .ok (.iaload, 1) := by decide +kernel
theorem dX8_evening_74 : decode cX8_evening 74 = .ok (.iaload, 1) := by decide +kernel
theorem dX8_evening_75 : decode cX8_evening 75 = .ok (.aload_n 0, 1) := by decide +kernel
theorem dX8_evening_76 : decode cX8_evening 76 = .ok (.iload_n 1, 1) := by decide +kernel
theorem dX8_evening_77 : decode cX8_evening 77 = .ok (.invokevirtual 135, 3) := by decide +kernel
theorem dX8_evening_80 : decode cX8_evening 80 = .ok (.isub, 1) := by decide +kernel
theorem dX8_evening_81 : decode cX8_evening 81 = .ok (.istore_n 2, 1) := by decide +kernel
theorem dX8_evening_82 : decode cX8_evening 82 = .ok (.aload_n 0, 1) := by decide +kernel
theorem dX8_evening_83 : decode cX8_evening 83 = .ok (.getfield 29, 3) := by decide +kernel
theorem dX8_evening_86 : decode cX8_evening 86 = .ok (.getfield 132, 3) := by decide +kernel
theorem dX8_evening_89 : decode cX8_evening 89 = .ok (.iload_n 1, 1) := by decide +kernel
theorem dX8_evening_90 : decode cX8_evening 90 = .ok (.iconst 0, 1) := by decide +kernel
theorem dX8_evening_91 : decode cX8_evening 91 = .ok (.sipush 9999, 3) := by decide +kernel
theorem dX8_evening_94 : decode cX8_evening 94 = .ok (.aload_n 0, 1) := by decide +kernel
theorem dX8_evening_95 : decode cX8_evening 95 = .ok (.getfield 29, 3) := by decide +kernel
theorem dX8_evening_98 : decode cX8_evening 98 = .ok (.getfield 132, 3) := by decide +kernel
theorem dX8_evening_101 : decode cX8_evening 101 = .ok (.iload_n 1, 1) := by decide +kernel
theorem dX8_evening_102 : decode cX8_evening 102 = .ok (.iaload, 1) := by decide +kernel
theorem dX8_evening_103 : decode cX8_evening 103 = .ok (.iload_n 2, 1) := by decide +kernel
theorem dX8_evening_104 : decode cX8_evening 104 = .ok (.iadd, 1) := by decide +kernel
theorem dX8_evening_105 : decode cX8_evening 105 = .ok (.invokestatic 164, 3) := by decide +kernel
theorem dX8_evening_108 : decode cX8_evening 108 = .ok (.invokestatic 170, 3) := by decide +kernel
theorem dX8_evening_111 : decode cX8_evening 111 = .ok (.iastore, 1) := by decide +kernel
theorem dX8_evening_112 : decode cX8_evening 112 = .ok (.iinc 1 1, 3) := by decide +kernel
theorem dX8_evening_115 : decode cX8_evening 115 = .ok (.goto (-87), 3) := by decide +kernel
theorem dX8_evening_118 : decode cX8_evening 118 = .ok (.aload_n 0, 1) := by decide +kernel
theorem dX8_evening_119 : decode cX8_evening 119 = .ok (.getfield 29, 3) := by decide +kernel
theorem dX8_evening_122 : decode cX8_evening 122 = .ok (.getfield 126, 3) := by decide +kernel
theorem dX8_evening_125 : decode cX8_evening 125 = .ok (.iconst 0, 1) := by decide +kernel
theorem dX8_evening_126 : decode cX8_evening 126 = .ok (.invokestatic 173, 3) := by decide +kernel
theorem dX8_evening_129 : decode cX8_evening 129 = .ok (.aload_n 0, 1) := by decide +kernel
theorem dX8_evening_130 : decode cX8_evening 130 = .ok (.getfield 29, 3) := by decide +kernel
theorem dX8_evening_133 : decode cX8_evening 133 = .ok (.getfield 129, 3) := by decide +kernel
theorem dX8_evening_136 : decode cX8_evening 136 = .ok (.iconst 0, 1) := by decide +kernel
theorem dX8_evening_137 : decode cX8_evening 137 = .ok (.invokestatic 173, 3) := by decide +kernel
theorem dX8_evening_140 : decode cX8_evening 140 = .ok (.aload_n 0, 1) := by decide +kernel
theorem dX8_evening_141 : decode cX8_evening 141 = .ok (.getfield 29, 3) := by decide +kernel
theorem dX8_evening_144 : decode cX8_evening 144 = .ok (.dup, 1) := by decide +kernel
theorem dX8_evening_145 : decode cX8_evening 145 = .ok (.getfield 158, 3) := by decide +kernel
theorem dX8_evening_148 : decode cX8_evening 148 = .ok (.iconst 1, 1) := by decide +kernel
theorem dX8_evening_149 : decode cX8_evening 149 = .ok (.iadd, 1) := by decide +kernel
theorem dX8_evening_150 : decode cX8_evening 150 = .ok (.putfield 158, 3) := by decide +kernel
theorem dX8_evening_153 : decode cX8_evening 153 = .ok (.aload_n 0, 1) := by decide +kernel
theorem dX8_evening_154 : decode cX8_evening 154 = .ok (.getfield 29, 3) := by decide +kernel
theorem dX8_evening_157 : decode cX8_evening 157 = .ok (.invokevirtual 179, 3) := by decide +kernel
theorem dX8_evening_160 : decode cX8_evening 160 = .ok (.ireturn, 1) := by decide +kernel
set_option maxRecDepth 20000 in
theorem ggX8_lends_X2_hasTenant : GoodIn wsX8_lends wsX2_hasTenant := goodIn_r _ [9, 10, 52, 53, 54, 55, 56, 57, 58, 59, 60, 61] (by decide +kernel) (by decide +kernel)
set_option maxRecDepth 20000 in
theorem gX8_lends_X2_hasTenant : GoodIn wsX8_lends (wsV RX8 108 RX2 yX2_hasTenant wsX2_hasTenant) := goodIn_app (goodIn_of _ (by decide +kernel)) ggX8_lends_X2_hasTenant
set_option maxRecDepth 20000 in
theorem ggX8_lends_X6_push : GoodIn wsX8_lends wsX6_push := goodIn_r _ [15, 16, 17, 18, 19, 20, 14, 21, 22, 23, 24, 25, 26, 27, 28, 29, 30, 31, 32, 33, 34, 35, 62, 63, 47, 48, 49, 50, 51] (by decide +kernel) (by decide +kernel)
set_option maxRecDepth 20000 in
theorem gX8_lends_X6_push : GoodIn wsX8_lends (wsV RX8 151 RX6 yX6_push wsX6_push) := goodIn_app (goodIn_of _ (by decide +kernel)) ggX8_lends_X6_push
theorem dX8_lends_0 : decode cX8_lends 0 = .ok (.aload_n 0, 1) := by decide +kernel
theorem dX8_lends_1 : decode cX8_lends 1 = .ok (.getfield 19, 3) := by decide +kernel
theorem dX8_lends_4 : decode cX8_lends 4 = .ok (.iload_n 1, 1) := by decide +kernel
theorem dX8_lends_5 : decode cX8_lends 5 = .ok (.invokevirtual 108, 3) := by decide +kernel
theorem dX8_lends_8 : decode cX8_lends 8 = .ok (.ifCond .eq 30, 3) := by decide +kernel
theorem dX8_lends_11 : decode cX8_lends 11 = .ok (.aload_n 0, 1) := by decide +kernel
theorem dX8_lends_12 : decode cX8_lends 12 = .ok (.getfield 19, 3) := by decide +kernel
theorem dX8_lends_15 : decode cX8_lends 15 = .ok (.iload_n 2, 1) := by decide +kernel
theorem dX8_lends_16 : decode cX8_lends 16 = .ok (.invokevirtual 108, 3) := by decide +kernel
theorem dX8_lends_19 : decode cX8_lends 19 = .ok (.ifCond .eq 19, 3) := by decide +kernel
theorem dX8_lends_22 : decode cX8_lends 22 = .ok (.iload_n 1, 1) := by decide +kernel
theorem dX8_lends_23 : decode cX8_lends 23 = .ok (.iload_n 2, 1) := by decide +kernel
theorem dX8_lends_24 : decode cX8_lends 24 = .ok (.if_icmp .eq 14, 3) := by decide +kernel
theorem dX8_lends_27 : decode cX8_lends 27 = .ok (.iload_n 3, 1) := by decide +kernel
theorem dX8_lends_28 : decode cX8_lends 28 = .ok (.iconst 1, 1) := by decide +kernel
theorem dX8_lends_29 : decode cX8_lends 29 = .ok (.if_icmp .lt 9, 3) := by decide +kernel
theorem dX8_lends_32 : decode cX8_lends 32 = .ok (.iload_n 3, 1) := by decide +kernel
theorem dX8_lends_33 : decode cX8_lends 33 = .ok (.bipush 99, 2) := by decide +kernel
theorem dX8_lends_35 : decode cX8_lends 35 = .ok (.if_icmp .le 5, 3) := by decide +kernel
theorem dX8_lends_38 : decode cX8_lends 38 = .ok (.iconst (-1), 1) := by decide +kernel
theorem dX8_lends_39 : decode cX8_lends 39 = .ok (.ireturn, 1) := by decide +kernel
theorem dX8_lends_40 : decode cX8_lends 40 = .ok (.aload_n 0, 1) := by decide +kernel
theorem dX8_lends_41 : decode cX8_lends 41 = .ok (.getfield 29, 3) := by decide +kernel
theorem dX8_lends_44 : decode cX8_lends 44 = .ok (.getfield 132, 3) := by decide +kernel
theorem dX8_lends_47 : decode cX8_lends 47 = .ok (.iload_n 2, 1) := by decide +kernel
theorem dX8_lends_48 : decode cX8_lends 48 = .ok (.iaload, 1) := by decide +kernel
theorem dX8_lends_49 : decode cX8_lends 49 = .ok (.iload_n 3, 1) := by decide +kernel
theorem dX8_lends_50 : decode cX8_lends 50 = .ok (.if_icmp .lt 20, 3) := by decide +kernel
theorem dX8_lends_53 : decode cX8_lends 53 = .ok (.aload_n 0, 1) := by decide +kernel
theorem dX8_lends_54 : decode cX8_lends 54 = .ok (.getfield 29, 3) := by decide +kernel
theorem dX8_lends_57 : decode cX8_lends 57 = .ok (.getfield 132, 3) := by decide +kernel
theorem dX8_lends_60 : decode cX8_lends 60 = .ok (.iload_n 1, 1) := by decide +kernel
theorem dX8_lends_61 : decode cX8_lends 61 = .ok (.iaload, 1) := by decide +kernel
theorem dX8_lends_62 : decode cX8_lends 62 = .ok (.iload_n 3, 1) := by decide +kernel
theorem dX8_lends_63 : decode cX8_lends 63 = .ok (.iadd, 1) := by decide +kernel
theorem dX8_lends_64 : decode cX8_lends 64 = .ok (.sipush 9999, 3) := by decide +kernel
theorem dX8_lends_67 : decode cX8_lends 67 = .ok (.if_icmp .le 6, 3) := by decide +kernel
theorem dX8_lends_70 : decode cX8_lends 70 = .ok (.bipush (-2), 2) := by decide +kernel
theorem dX8_lends_72 : decode cX8_lends 72 = .ok (.ireturn, 1) := by decide +kernel
theorem dX8_lends_73 : decode cX8_lends 73 = .ok (.aload_n 0, 1) := by decide +kernel
theorem dX8_lends_74 : decode cX8_lends 74 = .ok (.getfield 36, 3) := by decide +kernel
theorem dX8_lends_77 : decode cX8_lends 77 = .ok (.aload_n 0, 1) := by decide +kernel
theorem dX8_lends_78 : decode cX8_lends 78 = .ok (.getfield 29, 3) := by decide +kernel
theorem dX8_lends_81 : decode cX8_lends 81 = .ok (.invokevirtual 151, 3) := by decide +kernel
theorem dX8_lends_84 : decode cX8_lends 84 = .ok (.aload_n 0, 1) := by decide +kernel
theorem dX8_lends_85 : decode cX8_lends 85 = .ok (.getfield 29, 3) := by decide +kernel
theorem dX8_lends_88 : decode cX8_lends 88 = .ok (.getfield 132, 3) := by decide +kernel
theorem dX8_lends_91 : decode cX8_lends 91 = .ok (.iload_n 2, 1) := by decide +kernel
theorem dX8_lends_92 : decode cX8_lends 92 = .ok (.dup2, 1) := by decide +kernel
theorem dX8_lends_93 : decode cX8_lends 93 = .ok (.iaload, 1) := by decide +kernel
theorem dX8_lends_94 : decode cX8_lends 94 = .ok (.iload_n 3, 1) := by decide +kernel
theorem dX8_lends_95 : decode cX8_lends 95 = .ok (.isub, 1) := by decide +kernel
theorem dX8_lends_96 : decode cX8_lends 96 = .ok (.iastore, 1) := by decide +kernel
theorem dX8_lends_97 : decode cX8_lends 97 = .ok (.aload_n 0, 1) := by decide +kernel
theorem dX8_lends_98 : decode cX8_lends 98 = .ok (.getfield 29, 3) := by decide +kernel
theorem dX8_lends_101 : decode cX8_lends 101 = .ok (.getfield 132, 3) := by decide +kernel
theorem dX8_lends_104 : decode cX8_lends 104 = .ok (.iload_n 1, 1) := by decide +kernel
theorem dX8_lends_105 : decode cX8_lends 105 = .ok (.dup2, 1) := by decide +kernel
theorem dX8_lends_106 : decode cX8_lends 106 = .ok (.iaload, 1) := by decide +kernel
theorem dX8_lends_107 : decode cX8_lends 107 = .ok (.iload_n 3, 1) := by decide +kernel
theorem dX8_lends_108 : decode cX8_lends 108 = .ok (.iadd, 1) := by decide +kernel
theorem dX8_lends_109 : decode cX8_lends 109 = .ok (.iastore, 1) := by decide +kernel
theorem dX8_lends_110 : decode cX8_lends 110 = .ok (.aload_n 0, 1) := by decide +kernel
theorem dX8_lends_111 : decode cX8_lends 111 = .ok (.getfield 29, 3) := by decide +kernel
theorem dX8_lends_114 : decode cX8_lends 114 = .ok (.getfield 132, 3) := by decide +kernel
theorem dX8_lends_117 : decode cX8_lends 117 = .ok (.iload_n 1, 1) := by decide +kernel
theorem dX8_lends_118 : decode cX8_lends 118 = .ok (.iaload, 1) := by decide +kernel
theorem dX8_lends_119 : decode cX8_lends 119 = .ok (.ireturn, 1) := by decide +kernel
set_option maxRecDepth 20000 in
theorem ggX8_undo_X6_pop : GoodIn wsX8_undo wsX6_pop := goodIn_r _ [8, 9, 10, 11, 12, 13, 14, 15, 16, 17, 18, 19, 20, 21, 22, 23, 24, 36, 37, 38, 39, 40, 41, 42] (by decide +kernel) (by decide +kernel)
set_option maxRecDepth 20000 in
theorem gX8_undo_X6_pop : GoodIn wsX8_undo (wsV RX8 182 RX6 yX6_pop wsX6_pop) := goodIn_app (goodIn_of _ (by decide +kernel)) ggX8_undo_X6_pop
theorem dX8_undo_0 : decode cX8_undo 0 = .ok (.aload_n 0, 1) := by decide +kernel
theorem dX8_undo_1 : decode cX8_undo 1 = .ok (.getfield 36, 3) := by decide +kernel
theorem dX8_undo_4 : decode cX8_undo 4 = .ok (.getfield 86, 3) := by decide +kernel
theorem dX8_undo_7 : decode cX8_undo 7 = .ok (.ifCond .ne 6, 3) := by decide +kernel
theorem dX8_undo_10 : decode cX8_undo 10 = .ok (.bipush (-2), 2) := by decide +kernel
theorem dX8_undo_12 : decode cX8_undo 12 = .ok (.ireturn, 1) := by decide +kernel
theorem dX8_undo_13 : decode cX8_undo 13 = .ok (.aload_n 0, 1) := by decide +kernel
theorem dX8_undo_14 : decode cX8_undo 14 = .ok (.getfield 36, 3) := by decide +kernel
theorem dX8_undo_17 : decode cX8_undo 17 = .ok (.aload_n 0, 1) := by decide +kernel
theorem dX8_undo_18 : decode cX8_undo 18 = .ok (.getfield 29, 3) := by decide +kernel
theorem dX8_undo_21 : decode cX8_undo 21 = .ok (.invokevirtual 182, 3) := by decide +kernel
theorem dX8_undo_24 : decode cX8_undo 24 = .ok (.aload_n 0, 1) := by decide +kernel
theorem dX8_undo_25 : decode cX8_undo 25 = .ok (.getfield 36, 3) := by decide +kernel
theorem dX8_undo_28 : decode cX8_undo 28 = .ok (.getfield 86, 3) := by decide +kernel
theorem dX8_undo_31 : decode cX8_undo 31 = .ok (.ireturn, 1) := by decide +kernel
set_option maxRecDepth 20000 in
theorem ggX8_now_X5_allDebts : GoodIn wsX8_now wsX5_allDebts := goodIn_r _ [7, 8, 63, 64, 65, 66, 67] (by decide +kernel) (by decide +kernel)
set_option maxRecDepth 20000 in
theorem gX8_now_X5_allDebts : GoodIn wsX8_now (wsV RX8 179 RX5 yX5_allDebts wsX5_allDebts) := goodIn_app (goodIn_of _ (by decide +kernel)) ggX8_now_X5_allDebts
set_option maxRecDepth 20000 in
theorem ggX8_now_X8_dwellers : GoodIn wsX8_now wsX8_dwellers := goodIn_r _ [13, 14, 15, 1, 16, 52, 53, 54, 55, 56, 57, 58, 59, 60, 61, 62, 68, 69, 70, 71, 72, 73, 74, 75, 76, 77, 63, 64, 65, 66, 67] (by decide +kernel) (by decide +kernel)
set_option maxRecDepth 20000 in
theorem gX8_now_X8_dwellers : GoodIn wsX8_now (wsV RX8 185 RX8 yX8_dwellers wsX8_dwellers) := goodIn_app (goodIn_of _ (by decide +kernel)) ggX8_now_X8_dwellers
set_option maxRecDepth 20000 in
theorem ggX8_now_X8_emptyRooms : GoodIn wsX8_now wsX8_emptyRooms := goodIn_r _ [20, 14, 21, 1, 22, 23, 24, 6, 25, 26, 52, 53, 54, 55, 56, 57, 58, 59, 60, 61, 62, 68, 69, 70, 71, 72, 73, 74, 75, 76, 77, 63, 64, 65, 66, 67] (by decide +kernel) (by decide +kernel)
set_option maxRecDepth 20000 in
theorem gX8_now_X8_emptyRooms : GoodIn wsX8_now (wsV RX8 188 RX8 yX8_emptyRooms wsX8_emptyRooms) := goodIn_app (goodIn_of _ (by decide +kernel)) ggX8_now_X8_emptyRooms
set_option maxRecDepth 20000 in
theorem ggX8_now_X8_lackingDwellers : GoodIn wsX8_now wsX8_lackingDwellers := goodIn_r _ [30, 14, 15, 31, 32, 33, 12, 34, 1, 16, 35, 36, 37, 38, 39, 40, 41, 42, 43, 44, 45, 46, 47, 48, 49, 50, 51, 52, 53, 54, 55, 56, 57, 58, 59, 60, 61, 62, 68, 69, 70, 71, 72, 73, 74, 75, 76, 77, 63, 64, 65, 66, 67] (by decide +kernel) (by decide +kernel)
set_option maxRecDepth 20000 in
theorem gX8_now_X8_lackingDwellers : GoodIn wsX8_now (wsV RX8 191 RX8 yX8_lackingDwellers wsX8_lackingDwellers) := goodIn_app (goodIn_of _ (by decide +kernel)) ggX8_now_X8_lackingDwellers
theorem dX8_now_0 : decode cX8_now 0 = .ok (.iload_n 1, 1) := by decide +kernel
theorem dX8_now_1 : decode cX8_now 1 = .ok (.tableswitch 66 0 4 #[35, 43, 51, 56, 61], 35) := by decide +kernel
theorem dX8_now_36 : decode cX8_now 36 = .ok (.aload_n 0, 1) := by decide +kernel
theorem dX8_now_37 : decode cX8_now 37 = .ok (.getfield 29, 3) := by decide +kernel
theorem dX8_now_40 : decode cX8_now 40 = .ok (.getfield 158, 3) := by decide +kernel
theorem dX8_now_43 : decode cX8_now 43 = .ok (.ireturn, 1) := by decide +kernel
theorem dX8_now_44 : decode cX8_now 44 = .ok (.aload_n 0, 1) := by decide +kernel
theorem dX8_now_45 : decode cX8_now 45 = .ok (.getfield 29, 3) := by decide +kernel
theorem dX8_now_48 : decode cX8_now 48 = .ok (.invokevirtual 179, 3) := by decide +kernel
theorem dX8_now_51 : decode cX8_now 51 = .ok (.ireturn, 1) := by decide +kernel
theorem dX8_now_52 : decode cX8_now 52 = .ok (.aload_n 0, 1) := by decide +kernel
theorem dX8_now_53 : decode cX8_now 53 = .ok (.invokevirtual 185, 3) := by decide +kernel
theorem dX8_now_56 : decode cX8_now 56 = .ok (.ireturn, 1) := by decide +kernel
theorem dX8_now_57 : decode cX8_now 57 = .ok (.aload_n 0, 1) := by decide +kernel
theorem dX8_now_58 : decode cX8_now 58 = .ok (.invokevirtual 188, 3) := by decide +kernel
theorem dX8_now_61 : decode cX8_now 61 = .ok (.ireturn, 1) := by decide +kernel
theorem dX8_now_62 : decode cX8_now 62 = .ok (.aload_n 0, 1) := by decide +kernel
theorem dX8_now_63 : decode cX8_now 63 = .ok (.invokevirtual 191, 3) := by decide +kernel
theorem dX8_now_66 : decode cX8_now 66 = .ok (.ireturn, 1) := by decide +kernel
theorem dX8_now_67 : decode cX8_now 67 = .ok (.iconst (-1), 1) := by decide +kernel
theorem dX8_now_68 : decode cX8_now 68 = .ok (.ireturn, 1) := by decide +kernel
set_option maxRecDepth 20000 in
theorem ggX8_silentHours_X2_freeHours : GoodIn wsX8_silentHours wsX2_freeHours := goodIn_r _ [12, 13, 30, 31, 32, 33, 34, 35, 36, 37, 38, 39] (by decide +kernel) (by decide +kernel)
set_option maxRecDepth 20000 in
theorem gX8_silentHours_X2_freeHours : GoodIn wsX8_silentHours (wsV RX8 155 RX2 yX2_freeHours wsX2_freeHours) := goodIn_app (goodIn_of _ (by decide +kernel)) ggX8_silentHours_X2_freeHours
theorem dX8_silentHours_0 : decode cX8_silentHours 0 = .ok (.iconst 0, 1) := by decide +kernel
theorem dX8_silentHours_1 : decode cX8_silentHours 1 = .ok (.aload_n 0, 1) := by decide +kernel
theorem dX8_silentHours_2 : decode cX8_silentHours 2 = .ok (.getfield 19, 3) := by decide +kernel
theorem dX8_silentHours_5 : decode cX8_silentHours 5 = .ok (.iload_n 1, 1) := by decide +kernel
theorem dX8_silentHours_6 : decode cX8_silentHours 6 = .ok (.invokevirtual 155, 3) := by decide +kernel
theorem dX8_silentHours_9 : decode cX8_silentHours 9 = .ok (.aload_n 0, 1) := by decide +kernel
theorem dX8_silentHours_10 : decode cX8_silentHours 10 = .ok (.getfield 29, 3) := by decide +kernel
theorem dX8_silentHours_13 : decode cX8_silentHours 13 = .ok (.getfield 129, 3) := by decide +kernel
theorem dX8_silentHours_16 : decode cX8_silentHours 16 = .ok (.iload_n 1, 1) := by decide +kernel
theorem dX8_silentHours_17 : decode cX8_silentHours 17 = .ok (.iaload, 1) := by decide +kernel
theorem dX8_silentHours_18 : decode cX8_silentHours 18 = .ok (.isub, 1) := by decide +kernel
theorem dX8_silentHours_19 : decode cX8_silentHours 19 = .ok (.invokestatic 170, 3) := by decide +kernel
theorem dX8_silentHours_22 : decode cX8_silentHours 22 = .ok (.ireturn, 1) := by decide +kernel
theorem dX8_dwellers_0 : decode cX8_dwellers 0 = .ok (.iconst 0, 1) := by decide +kernel
theorem dX8_dwellers_1 : decode cX8_dwellers 1 = .ok (.istore_n 1, 1) := by decide +kernel
theorem dX8_dwellers_2 : decode cX8_dwellers 2 = .ok (.iconst 0, 1) := by decide +kernel
theorem dX8_dwellers_3 : decode cX8_dwellers 3 = .ok (.istore_n 2, 1) := by decide +kernel
theorem dX8_dwellers_4 : decode cX8_dwellers 4 = .ok (.iload_n 2, 1) := by decide +kernel
theorem dX8_dwellers_5 : decode cX8_dwellers 5 = .ok (.aload_n 0, 1) := by decide +kernel
theorem dX8_dwellers_6 : decode cX8_dwellers 6 = .ok (.getfield 19, 3) := by decide +kernel
theorem dX8_dwellers_9 : decode cX8_dwellers 9 = .ok (.getfield 161, 3) := by decide +kernel
theorem dX8_dwellers_12 : decode cX8_dwellers 12 = .ok (.if_icmp .ge 29, 3) := by decide +kernel
theorem dX8_dwellers_15 : decode cX8_dwellers 15 = .ok (.aload_n 0, 1) := by decide +kernel
theorem dX8_dwellers_16 : decode cX8_dwellers 16 = .ok (.getfield 29, 3) := by decide +kernel
theorem dX8_dwellers_19 : decode cX8_dwellers 19 = .ok (.getfield 123, 3) := by decide +kernel
theorem dX8_dwellers_22 : decode cX8_dwellers 22 = .ok (.iload_n 2, 1) := by decide +kernel
theorem dX8_dwellers_23 : decode cX8_dwellers 23 = .ok (.iaload, 1) := by decide +kernel
theorem dX8_dwellers_24 : decode cX8_dwellers 24 = .ok (.bipush (-9), 2) := by decide +kernel
theorem dX8_dwellers_26 : decode cX8_dwellers 26 = .ok (.if_icmp .eq 9, 3) := by decide +kernel
theorem dX8_dwellers_29 : decode cX8_dwellers 29 = .ok (.iload_n 1, 1) := by decide +kernel
theorem dX8_dwellers_30 : decode cX8_dwellers 30 = .ok (.iconst 1, 1) := by decide +kernel
theorem dX8_dwellers_31 : decode cX8_dwellers 31 = .ok (.iload_n 2, 1) := by decide +kernel
theorem dX8_dwellers_32 : decode cX8_dwellers 32 = .ok (.ishl, 1) := by decide +kernel
theorem dX8_dwellers_33 : decode cX8_dwellers 33 = .ok (.ior, 1) := by decide +kernel
theorem dX8_dwellers_34 : decode cX8_dwellers 34 = .ok (.istore_n 1, 1) := by decide +kernel
theorem dX8_dwellers_35 : decode cX8_dwellers 35 = .ok (.iinc 2 1, 3) := by decide +kernel
theorem dX8_dwellers_38 : decode cX8_dwellers 38 = .ok (.goto (-34), 3) := by decide +kernel
theorem dX8_dwellers_41 : decode cX8_dwellers 41 = .ok (.iload_n 1, 1) := by decide +kernel
theorem dX8_dwellers_42 : decode cX8_dwellers 42 = .ok (.ireturn, 1) := by decide +kernel
set_option maxRecDepth 20000 in
theorem ggX8_emptyRooms_X5_dweller : GoodIn wsX8_emptyRooms wsX5_dweller := goodIn_r _ [8, 9, 31, 32, 33, 34, 35] (by decide +kernel) (by decide +kernel)
set_option maxRecDepth 20000 in
theorem gX8_emptyRooms_X5_dweller : GoodIn wsX8_emptyRooms (wsV RX8 101 RX5 yX5_dweller wsX5_dweller) := goodIn_app (goodIn_of _ (by decide +kernel)) ggX8_emptyRooms_X5_dweller
theorem dX8_emptyRooms_0 : decode cX8_emptyRooms 0 = .ok (.iconst 0, 1) := by decide +kernel
theorem dX8_emptyRooms_1 : decode cX8_emptyRooms 1 = .ok (.istore_n 1, 1) := by decide +kernel
theorem dX8_emptyRooms_2 : decode cX8_emptyRooms 2 = .ok (.iconst 0, 1) := by decide +kernel
theorem dX8_emptyRooms_3 : decode cX8_emptyRooms 3 = .ok (.istore_n 2, 1) := by decide +kernel
theorem dX8_emptyRooms_4 : decode cX8_emptyRooms 4 = .ok (.iload_n 2, 1) := by decide +kernel
theorem dX8_emptyRooms_5 : decode cX8_emptyRooms 5 = .ok (.aload_n 0, 1) := by decide +kernel
theorem dX8_emptyRooms_6 : decode cX8_emptyRooms 6 = .ok (.getfield 19, 3) := by decide +kernel
theorem dX8_emptyRooms_9 : decode cX8_emptyRooms 9 = .ok (.getfield 194, 3) := by decide +kernel
theorem dX8_emptyRooms_12 : decode cX8_emptyRooms 12 = .ok (.if_icmp .ge 28, 3) := by decide +kernel
theorem dX8_emptyRooms_15 : decode cX8_emptyRooms 15 = .ok (.aload_n 0, 1) := by decide +kernel
theorem dX8_emptyRooms_16 : decode cX8_emptyRooms 16 = .ok (.getfield 29, 3) := by decide +kernel
theorem dX8_emptyRooms_19 : decode cX8_emptyRooms 19 = .ok (.iload_n 2, 1) := by decide +kernel
theorem dX8_emptyRooms_20 : decode cX8_emptyRooms 20 = .ok (.invokevirtual 101, 3) := by decide +kernel
theorem dX8_emptyRooms_23 : decode cX8_emptyRooms 23 = .ok (.bipush (-9), 2) := by decide +kernel
theorem dX8_emptyRooms_25 : decode cX8_emptyRooms 25 = .ok (.if_icmp .ne 9, 3) := by decide +kernel
theorem dX8_emptyRooms_28 : decode cX8_emptyRooms 28 = .ok (.iload_n 1, 1) := by decide +kernel
theorem dX8_emptyRooms_29 : decode cX8_emptyRooms 29 = .ok (.iconst 1, 1) := by decide +kernel
theorem dX8_emptyRooms_30 : decode cX8_emptyRooms 30 = .ok (.iload_n 2, 1) := by decide +kernel
theorem dX8_emptyRooms_31 : decode cX8_emptyRooms 31 = .ok (.ishl, 1) := by decide +kernel
theorem dX8_emptyRooms_32 : decode cX8_emptyRooms 32 = .ok (.ior, 1) := by decide +kernel
theorem dX8_emptyRooms_33 : decode cX8_emptyRooms 33 = .ok (.istore_n 1, 1) := by decide +kernel
theorem dX8_emptyRooms_34 : decode cX8_emptyRooms 34 = .ok (.iinc 2 1, 3) := by decide +kernel
theorem dX8_emptyRooms_37 : decode cX8_emptyRooms 37 = .ok (.goto (-33), 3) := by decide +kernel
theorem dX8_emptyRooms_40 : decode cX8_emptyRooms 40 = .ok (.iload_n 1, 1) := by decide +kernel
theorem dX8_emptyRooms_41 : decode cX8_emptyRooms 41 = .ok (.ireturn, 1) := by decide +kernel
set_option maxRecDepth 20000 in
theorem ggX8_lackingDwellers_X8_spareHours : GoodIn wsX8_lackingDwellers wsX8_spareHours := goodIn_r _ [7, 8, 9, 1, 10, 11, 12, 13, 14, 15, 16, 17, 18, 19, 20, 21, 22, 23, 24, 25, 26, 27, 28, 29, 30, 31, 32, 33, 34, 35, 36, 37, 48, 49, 50, 51, 52, 38, 39, 40, 41, 42, 43, 44, 45, 46, 47] (by decide +kernel) (by decide +kernel)
set_option maxRecDepth 20000 in
theorem gX8_lackingDwellers_X8_spareHours : GoodIn wsX8_lackingDwellers (wsV RX8 197 RX8 yX8_spareHours wsX8_spareHours) := goodIn_app (goodIn_of _ (by decide +kernel)) ggX8_lackingDwellers_X8_spareHours
theorem dX8_lackingDwellers_0 : decode cX8_lackingDwellers 0 = .ok (.iconst 0, 1) := by decide +kernel
theorem dX8_lackingDwellers_1 : decode cX8_lackingDwellers 1 = .ok (.istore_n 1, 1) := by decide +kernel
theorem dX8_lackingDwellers_2 : decode cX8_lackingDwellers 2 = .ok (.iconst 0, 1) := by decide +kernel
theorem dX8_lackingDwellers_3 : decode cX8_lackingDwellers 3 = .ok (.istore_n 2, 1) := by decide +kernel
theorem dX8_lackingDwellers_4 : decode cX8_lackingDwellers 4 = .ok (.iload_n 2, 1) := by decide +kernel
theorem dX8_lackingDwellers_5 : decode cX8_lackingDwellers 5 = .ok (.aload_n 0, 1) := by decide +kernel
theorem dX8_lackingDwellers_6 : decode cX8_lackingDwellers 6 = .ok (.getfield 19, 3) := by decide +kernel
theorem dX8_lackingDwellers_9 : decode cX8_lackingDwellers 9 = .ok (.getfield 161, 3) := by decide +kernel
theorem dX8_lackingDwellers_12 : decode cX8_lackingDwellers 12 = .ok (.if_icmp .ge 23, 3) := by decide +kernel
theorem dX8_lackingDwellers_15 : decode cX8_lackingDwellers 15 = .ok (.aload_n 0, 1) := by decide +kernel
theorem dX8_lackingDwellers_16 : decode cX8_lackingDwellers 16 = .ok (.iload_n 2, 1) := by decide +kernel
theorem dX8_lackingDwellers_17 : decode cX8_lackingDwellers 17 = .ok (.invokevirtual 197, 3) := by decide +kernel
theorem dX8_lackingDwellers_20 : decode cX8_lackingDwellers 20 = .ok (.ifCond .ge 9, 3) := by decide +kernel
theorem dX8_lackingDwellers_23 : decode cX8_lackingDwellers 23 = .ok (.iload_n 1, 1) := by decide +kernel
theorem dX8_lackingDwellers_24 : decode cX8_lackingDwellers 24 = .ok (.iconst 1, 1) := by decide +kernel
theorem dX8_lackingDwellers_25 : decode cX8_lackingDwellers 25 = .ok (.iload_n 2, 1) := by decide +kernel
theorem dX8_lackingDwellers_26 : decode cX8_lackingDwellers 26 = .ok (.ishl, 1) := by decide +kernel
theorem dX8_lackingDwellers_27 : decode cX8_lackingDwellers 27 = .ok (.ior, 1) := by decide +kernel
theorem dX8_lackingDwellers_28 : decode cX8_lackingDwellers 28 = .ok (.istore_n 1, 1) := by decide +kernel
theorem dX8_lackingDwellers_29 : decode cX8_lackingDwellers 29 = .ok (.iinc 2 1, 3) := by decide +kernel
theorem dX8_lackingDwellers_32 : decode cX8_lackingDwellers 32 = .ok (.goto (-28), 3) := by decide +kernel
theorem dX8_lackingDwellers_35 : decode cX8_lackingDwellers 35 = .ok (.iload_n 1, 1) := by decide +kernel
theorem dX8_lackingDwellers_36 : decode cX8_lackingDwellers 36 = .ok (.ireturn, 1) := by decide +kernel
set_option maxRecDepth 20000 in
theorem ggX8_housed_X3_solve : GoodIn wsX8_housed wsX3_solve := goodIn_r _ [9, 10, 11, 12, 13, 14, 15, 16, 17, 18, 19, 20, 8, 21, 22, 23, 24, 25, 26, 27, 28, 29, 30, 31, 32, 33, 34, 35, 36, 37, 38, 39, 40, 41, 42, 43, 44, 45, 46, 47, 48, 49, 50, 51, 52, 53, 54, 89, 90, 79, 80, 81, 82, 83, 84, 85, 86, 87, 88] (by decide +kernel) (by decide +kernel)
set_option maxRecDepth 20000 in
theorem gX8_housed_X3_solve : GoodIn wsX8_housed (wsV RX8 200 RX3 yX3_solve wsX3_solve) := goodIn_app (goodIn_of _ (by decide +kernel)) ggX8_housed_X3_solve
set_option maxRecDepth 20000 in
theorem ggX8_housed_X3_howMany : GoodIn wsX8_housed wsX3_howMany := goodIn_r _ [58, 11, 13, 79, 80, 81, 82, 83, 84, 85, 86, 87, 88, 89, 90] (by decide +kernel) (by decide +kernel)
set_option maxRecDepth 20000 in
theorem gX8_housed_X3_howMany : GoodIn wsX8_housed (wsV RX8 204 RX3 yX3_howMany wsX3_howMany) := goodIn_app (goodIn_of _ (by decide +kernel)) ggX8_housed_X3_howMany
set_option maxRecDepth 20000 in
theorem ggX8_housed_X3_prices : GoodIn wsX8_housed wsX3_prices := goodIn_r _ [62, 11, 13, 50, 63, 64, 65, 33, 66, 67, 79, 80, 81, 82, 83, 84, 85, 86, 87, 88, 89, 90] (by decide +kernel) (by decide +kernel)
set_option maxRecDepth 20000 in
theorem gX8_housed_X3_prices : GoodIn wsX8_housed (wsV RX8 207 RX3 yX3_prices wsX3_prices) := goodIn_app (goodIn_of _ (by decide +kernel)) ggX8_housed_X3_prices
theorem dX8_housed_0 : decode cX8_housed 0 = .ok (.iload_n 1, 1) := by decide +kernel
theorem dX8_housed_1 : decode cX8_housed 1 = .ok (.bipush (-2), 2) := by decide +kernel
theorem dX8_housed_3 : decode cX8_housed 3 = .ok (.if_icmp .lt 14, 3) := by decide +kernel
theorem dX8_housed_6 : decode cX8_housed 6 = .ok (.iload_n 1, 1) := by decide +kernel
theorem dX8_housed_7 : decode cX8_housed 7 = .ok (.aload_n 0, 1) := by decide +kernel
theorem dX8_housed_8 : decode cX8_housed 8 = .ok (.getfield 19, 3) := by decide +kernel
theorem dX8_housed_11 : decode cX8_housed 11 = .ok (.getfield 161, 3) := by decide +kernel
theorem dX8_housed_14 : decode cX8_housed 14 = .ok (.if_icmp .lt 5, 3) := by decide +kernel
theorem dX8_housed_17 : decode cX8_housed 17 = .ok (.iconst (-1), 1) := by decide +kernel
theorem dX8_housed_18 : decode cX8_housed 18 = .ok (.ireturn, 1) := by decide +kernel
theorem dX8_housed_19 : decode cX8_housed 19 = .ok (.aload_n 0, 1) := by decide +kernel
theorem dX8_housed_20 : decode cX8_housed 20 = .ok (.getfield 56, 3) := by decide +kernel
theorem dX8_housed_23 : decode cX8_housed 23 = .ok (.aload_n 0, 1) := by decide +kernel
theorem dX8_housed_24 : decode cX8_housed 24 = .ok (.getfield 19, 3) := by decide +kernel
theorem dX8_housed_27 : decode cX8_housed 27 = .ok (.invokevirtual 200, 3) := by decide +kernel
theorem dX8_housed_30 : decode cX8_housed 30 = .ok (.iload_n 1, 1) := by decide +kernel
theorem dX8_housed_31 : decode cX8_housed 31 = .ok (.lookupswitch 49 #[(-2, 37), (-1, 25)], 25) := by decide +kernel
theorem dX8_housed_56 : decode cX8_housed 56 = .ok (.aload_n 0, 1) := by decide +kernel
theorem dX8_housed_57 : decode cX8_housed 57 = .ok (.getfield 56, 3) := by decide +kernel
theorem dX8_housed_60 : decode cX8_housed 60 = .ok (.aload_n 0, 1) := by decide +kernel
theorem dX8_housed_61 : decode cX8_housed 61 = .ok (.getfield 19, 3) := by decide +kernel
theorem dX8_housed_64 : decode cX8_housed 64 = .ok (.invokevirtual 204, 3) := by decide +kernel
theorem dX8_housed_67 : decode cX8_housed 67 = .ok (.ireturn, 1) := by decide +kernel
theorem dX8_housed_68 : decode cX8_housed 68 = .ok (.aload_n 0, 1) := by decide +kernel
theorem dX8_housed_69 : decode cX8_housed 69 = .ok (.getfield 56, 3) := by decide +kernel
theorem dX8_housed_72 : decode cX8_housed 72 = .ok (.aload_n 0, 1) := by decide +kernel
theorem dX8_housed_73 : decode cX8_housed 73 = .ok (.getfield 19, 3) := by decide +kernel
theorem dX8_housed_76 : decode cX8_housed 76 = .ok (.invokevirtual 207, 3) := by decide +kernel
theorem dX8_housed_79 : decode cX8_housed 79 = .ok (.ireturn, 1) := by decide +kernel
theorem dX8_housed_80 : decode cX8_housed 80 = .ok (.aload_n 0, 1) := by decide +kernel
theorem dX8_housed_81 : decode cX8_housed 81 = .ok (.getfield 56, 3) := by decide +kernel
theorem dX8_housed_84 : decode cX8_housed 84 = .ok (.getfield 210, 3) := by decide +kernel
theorem dX8_housed_87 : decode cX8_housed 87 = .ok (.iload_n 1, 1) := by decide +kernel
theorem dX8_housed_88 : decode cX8_housed 88 = .ok (.iaload, 1) := by decide +kernel
theorem dX8_housed_89 : decode cX8_housed 89 = .ok (.ireturn, 1) := by decide +kernel
set_option maxRecDepth 20000 in
theorem ggX8_crowd_X2_everybody : GoodIn wsX8_crowd wsX2_everybody := goodIn_r _ [6, 7, 50, 51, 52, 53, 54, 55, 56, 57, 58, 59] (by decide +kernel) (by decide +kernel)
set_option maxRecDepth 20000 in
theorem gX8_crowd_X2_everybody : GoodIn wsX8_crowd (wsV RX8 147 RX2 yX2_everybody wsX2_everybody) := goodIn_app (goodIn_of _ (by decide +kernel)) ggX8_crowd_X2_everybody
set_option maxRecDepth 20000 in
theorem ggX8_crowd_J6_bitCount_0f7a4 : GoodIn wsX8_crowd wsJ6_bitCount_0f7a4 := goodIn_r _ [11, 12, 13, 14] (by decide +kernel) (by decide +kernel)
set_option maxRecDepth 20000 in
theorem gX8_crowd_J6_bitCount_0f7a4 : GoodIn wsX8_crowd (va_wsS RX8 211 yJ6_bitCount_0f7a4 wsJ6_bitCount_0f7a4) := goodIn_app (goodIn_of _ (by decide +kernel)) ggX8_crowd_J6_bitCount_0f7a4
set_option maxRecDepth 20000 in
theorem ggX8_crowd_X2_roomsMetBy : GoodIn wsX8_crowd wsX2_roomsMetBy := goodIn_r _ [18, 19, 20, 21, 22, 5, 23, 7, 24, 25, 26, 27, 28, 29, 30, 31, 32, 33, 34, 35, 36, 37, 38, 50, 51, 52, 53, 54, 55, 56, 57, 58, 59] (by decide +kernel) (by decide +kernel)
set_option maxRecDepth 20000 in
theorem gX8_crowd_X2_roomsMetBy : GoodIn wsX8_crowd (wsV RX8 216 RX2 yX2_roomsMetBy wsX2_roomsMetBy) := goodIn_app (goodIn_of _ (by decide +kernel)) ggX8_crowd_X2_roomsMetBy
theorem dX8_crowd_0 : decode cX8_crowd 0 = .ok (.bipush (-9), 2) := by decide +kernel
theorem dX8_crowd_2 : decode cX8_crowd 2 = .ok (.istore_n 1, 1) := by decide +kernel
theorem dX8_crowd_3 : decode cX8_crowd 3 = .ok (.bipush 7, 2) := by decide +kernel
theorem dX8_crowd_5 : decode cX8_crowd 5 = .ok (.istore_n 2, 1) := by decide +kernel
theorem dX8_crowd_6 : decode cX8_crowd 6 = .ok (.iconst 1, 1) := by decide +kernel
theorem dX8_crowd_7 : decode cX8_crowd 7 = .ok (.istore_n 3, 1) := by decide +kernel
theorem dX8_crowd_8 : decode cX8_crowd 8 = .ok (.iload_n 3, 1) := by decide +kernel
theorem dX8_crowd_9 : decode cX8_crowd 9 = .ok (.aload_n 0, 1) := by decide +kernel
theorem dX8_crowd_10 : decode cX8_crowd 10 = .ok (.getfield 19, 3) := by decide +kernel
theorem dX8_crowd_13 : decode cX8_crowd 13 = .ok (.invokevirtual 147, 3) := by decide +kernel
theorem dX8_crowd_16 : decode cX8_crowd 16 = .ok (.if_icmp .gt 42, 3) := by decide +kernel
theorem dX8_crowd_19 : decode cX8_crowd 19 = .ok (.iload_n 3, 1) := by decide +kernel
theorem dX8_crowd_20 : decode cX8_crowd 20 = .ok (.invokestatic 211, 3) := by decide +kernel
theorem dX8_crowd_23 : decode cX8_crowd 23 = .ok (.istore 4, 2) := by decide +kernel
theorem dX8_crowd_25 : decode cX8_crowd 25 = .ok (.iload 4, 2) := by decide +kernel
theorem dX8_crowd_27 : decode cX8_crowd 27 = .ok (.iload_n 2, 1) := by decide +kernel
theorem dX8_crowd_28 : decode cX8_crowd 28 = .ok (.if_icmp .ge 24, 3) := by decide +kernel
theorem dX8_crowd_31 : decode cX8_crowd 31 = .ok (.aload_n 0, 1) := by decide +kernel
theorem dX8_crowd_32 : decode cX8_crowd 32 = .ok (.getfield 19, 3) := by decide +kernel
theorem dX8_crowd_35 : decode cX8_crowd 35 = .ok (.iload_n 3, 1) := by decide +kernel
theorem dX8_crowd_36 : decode cX8_crowd 36 = .ok (.invokevirtual 216, 3) := by decide +kernel
theorem dX8_crowd_39 : decode cX8_crowd 39 = .ok (.invokestatic 211, 3) := by decide +kernel
theorem dX8_crowd_42 : decode cX8_crowd 42 = .ok (.iload 4, 2) := by decide +kernel
theorem dX8_crowd_44 : decode cX8_crowd 44 = .ok (.if_icmp .ge 8, 3) := by decide +kernel
theorem dX8_crowd_47 : decode cX8_crowd 47 = .ok (.iload_n 3, 1) := by decide +kernel
theorem dX8_crowd_48 : decode cX8_crowd 48 = .ok (.istore_n 1, 1) := by decide +kernel
theorem dX8_crowd_49 : decode cX8_crowd 49 = .ok (.iload 4, 2) := by decide +kernel
theorem dX8_crowd_51 : decode cX8_crowd 51 = .ok (.istore_n 2, 1) := by decide +kernel
theorem dX8_crowd_52 : decode cX8_crowd 52 = .ok (.iinc 3 1, 3) := by decide +kernel
theorem dX8_crowd_55 : decode cX8_crowd 55 = .ok (.goto (-47), 3) := by decide +kernel
theorem dX8_crowd_58 : decode cX8_crowd 58 = .ok (.iload_n 1, 1) := by decide +kernel
theorem dX8_crowd_59 : decode cX8_crowd 59 = .ok (.ireturn, 1) := by decide +kernel
set_option maxRecDepth 20000 in
theorem ggX8_spare_X2_hasTenant : GoodIn wsX8_spare wsX2_hasTenant := goodIn_r _ [7, 8, 43, 44, 45, 46, 47, 48, 49, 50, 51, 52] (by decide +kernel) (by decide +kernel)
set_option maxRecDepth 20000 in
theorem gX8_spare_X2_hasTenant : GoodIn wsX8_spare (wsV RX8 108 RX2 yX2_hasTenant wsX2_hasTenant) := goodIn_app (goodIn_of _ (by decide +kernel)) ggX8_spare_X2_hasTenant
set_option maxRecDepth 20000 in
theorem ggX8_spare_X8_spareHours : GoodIn wsX8_spare wsX8_spareHours := goodIn_r _ [13, 14, 15, 1, 16, 17, 18, 19, 6, 20, 21, 22, 23, 24, 25, 26, 27, 28, 29, 30, 31, 32, 33, 34, 35, 36, 37, 38, 39, 40, 41, 42, 53, 54, 55, 56, 57, 43, 44, 45, 46, 47, 48, 49, 50, 51, 52] (by decide +kernel) (by decide +kernel)
set_option maxRecDepth 20000 in
theorem gX8_spare_X8_spareHours : GoodIn wsX8_spare (wsV RX8 197 RX8 yX8_spareHours wsX8_spareHours) := goodIn_app (goodIn_of _ (by decide +kernel)) ggX8_spare_X8_spareHours
theorem dX8_spare_0 : decode cX8_spare 0 = .ok (.aload_n 0, 1) := by decide +kernel
theorem dX8_spare_1 : decode cX8_spare 1 = .ok (.getfield 19, 3) := by decide +kernel
theorem dX8_spare_4 : decode cX8_spare 4 = .ok (.iload_n 1, 1) := by decide +kernel
theorem dX8_spare_5 : decode cX8_spare 5 = .ok (.invokevirtual 108, 3) := by decide +kernel
theorem dX8_spare_8 : decode cX8_spare 8 = .ok (.ifCond .eq 11, 3) := by decide +kernel
theorem dX8_spare_11 : decode cX8_spare 11 = .ok (.aload_n 0, 1) := by decide +kernel
theorem dX8_spare_12 : decode cX8_spare 12 = .ok (.iload_n 1, 1) := by decide +kernel
theorem dX8_spare_13 : decode cX8_spare 13 = .ok (.invokevirtual 197, 3) := by decide +kernel
theorem dX8_spare_16 : decode cX8_spare 16 = .ok (.goto 5, 3) := by decide +kernel
theorem dX8_spare_19 : decode cX8_spare 19 = .ok (.ldc 219, 2) := by decide +kernel
theorem dX8_spare_21 : decode cX8_spare 21 = .ok (.ireturn, 1) := by decide +kernel
set_option maxRecDepth 20000 in
theorem ggX8_rest_X8_hoursForSale : GoodIn wsX8_rest wsX8_hoursForSale := goodIn_r _ [5, 6, 7, 8, 9, 10, 11, 12, 13, 14, 15, 4, 16, 17, 18, 19, 20, 21, 22, 23, 24, 25, 26, 27, 28, 29, 30, 31, 32, 33, 34, 35, 40, 41, 42, 43, 44, 45, 46, 47, 48, 49, 50, 51, 52, 53, 54, 55, 56, 57, 58, 59, 60, 61, 62, 63, 64, 65] (by decide +kernel) (by decide +kernel)
set_option maxRecDepth 20000 in
theorem gX8_rest_X8_hoursForSale : GoodIn wsX8_rest (wsV RX8 220 RX8 yX8_hoursForSale wsX8_hoursForSale) := goodIn_app (goodIn_of _ (by decide +kernel)) ggX8_rest_X8_hoursForSale
set_option maxRecDepth 20000 in
theorem ggX8_rest_X8_hoursBought : GoodIn wsX8_rest wsX8_hoursBought := goodIn_r _ [39, 6, 7, 8, 9, 10, 11, 12, 13, 14, 15, 4, 16, 17, 18, 19, 20, 21, 22, 23, 24, 25, 26, 27, 28, 29, 30, 31, 32, 33, 34, 35, 40, 41, 42, 43, 44, 45, 46, 47, 48, 49, 50, 51, 52, 53, 54, 55, 56, 57, 58, 59, 60, 61, 62, 63, 64, 65] (by decide +kernel) (by decide +kernel)
set_option maxRecDepth 20000 in
theorem gX8_rest_X8_hoursBought : GoodIn wsX8_rest (wsV RX8 223 RX8 yX8_hoursBought wsX8_hoursBought) := goodIn_app (goodIn_of _ (by decide +kernel)) ggX8_rest_X8_hoursBought
theorem dX8_rest_0 : decode cX8_rest 0 = .ok (.iload_n 1, 1) := by decide +kernel
theorem dX8_rest_1 : decode cX8_rest 1 = .ok (.ifCond .lt 8, 3) := by decide +kernel
theorem dX8_rest_4 : decode cX8_rest 4 = .ok (.iload_n 1, 1) := by decide +kernel
theorem dX8_rest_5 : decode cX8_rest 5 = .ok (.iconst 1, 1) := by decide +kernel
theorem dX8_rest_6 : decode cX8_rest 6 = .ok (.if_icmp .le 5, 3) := by decide +kernel
theorem dX8_rest_9 : decode cX8_rest 9 = .ok (.iconst (-1), 1) := by decide +kernel
theorem dX8_rest_10 : decode cX8_rest 10 = .ok (.ireturn, 1) := by decide +kernel
theorem dX8_rest_11 : decode cX8_rest 11 = .ok (.iconst 0, 1) := by decide +kernel
theorem dX8_rest_12 : decode cX8_rest 12 = .ok (.istore_n 2, 1) := by decide +kernel
theorem dX8_rest_13 : decode cX8_rest 13 = .ok (.iload_n 2, 1) := by decide +kernel
theorem dX8_rest_14 : decode cX8_rest 14 = .ok (.bipush 10, 2) := by decide +kernel
theorem dX8_rest_16 : decode cX8_rest 16 = .ok (.if_icmp .ge 22, 3) := by decide +kernel
theorem dX8_rest_19 : decode cX8_rest 19 = .ok (.aload_n 0, 1) := by decide +kernel
theorem dX8_rest_20 : decode cX8_rest 20 = .ok (.iload_n 2, 1) := by decide +kernel
theorem dX8_rest_21 : decode cX8_rest 21 = .ok (.invokevirtual 220, 3) := by decide +kernel
theorem dX8_rest_24 : decode cX8_rest 24 = .ok (.aload_n 0, 1) := by decide +kernel
theorem dX8_rest_25 : decode cX8_rest 25 = .ok (.iload_n 2, 1) := by decide +kernel
theorem dX8_rest_26 : decode cX8_rest 26 = .ok (.invokevirtual 223, 3) := by decide +kernel
theorem dX8_rest_29 : decode cX8_rest 29 = .ok (.if_icmp .ge 9, 3) := by decide +kernel
theorem dX8_rest_32 : decode cX8_rest 32 = .ok (.iinc 2 1, 3) := by decide +kernel
theorem dX8_rest_35 : decode cX8_rest 35 = .ok (.goto (-22), 3) := by decide +kernel
theorem dX8_rest_38 : decode cX8_rest 38 = .ok (.iload_n 1, 1) := by decide +kernel
theorem dX8_rest_39 : decode cX8_rest 39 = .ok (.ifCond .ne 7, 3) := by decide +kernel
theorem dX8_rest_42 : decode cX8_rest 42 = .ok (.iload_n 2, 1) := by decide +kernel
theorem dX8_rest_43 : decode cX8_rest 43 = .ok (.goto 8, 3) := by decide +kernel
theorem dX8_rest_46 : decode cX8_rest 46 = .ok (.aload_n 0, 1) := by decide +kernel
theorem dX8_rest_47 : decode cX8_rest 47 = .ok (.iload_n 2, 1) := by decide +kernel
theorem dX8_rest_48 : decode cX8_rest 48 = .ok (.invokevirtual 223, 3) := by decide +kernel
theorem dX8_rest_51 : decode cX8_rest 51 = .ok (.ireturn, 1) := by decide +kernel
set_option maxRecDepth 20000 in
theorem ggX8_payments_X8_lackingShare : GoodIn wsX8_payments wsX8_lackingShare := goodIn_r _ [7, 8, 1, 2, 9, 10, 11, 12, 13, 14, 15, 32, 33, 34, 35, 36, 37, 38, 39, 40, 41, 42, 43, 44, 45, 46, 47, 48, 49, 50, 51, 52, 53, 54, 55, 56, 57] (by decide +kernel) (by decide +kernel)
set_option maxRecDepth 20000 in
theorem gX8_payments_X8_lackingShare : GoodIn wsX8_payments (wsV RX8 226 RX8 yX8_lackingShare wsX8_lackingShare) := goodIn_app (goodIn_of _ (by decide +kernel)) ggX8_payments_X8_lackingShare
set_option maxRecDepth 20000 in
theorem ggX8_payments_J6_bitCount_0f7a4 : GoodIn wsX8_payments wsJ6_bitCount_0f7a4 := goodIn_r _ [19, 20, 21, 22] (by decide +kernel) (by decide +kernel)
set_option maxRecDepth 20000 in
theorem gX8_payments_J6_bitCount_0f7a4 : GoodIn wsX8_payments (va_wsS RX8 211 yJ6_bitCount_0f7a4 wsJ6_bitCount_0f7a4) := goodIn_app (goodIn_of _ (by decide +kernel)) ggX8_payments_J6_bitCount_0f7a4
set_option maxRecDepth 20000 in
theorem ggX8_payments_X8_mostGroups : GoodIn wsX8_payments wsX8_mostGroups := goodIn_r _ [26, 27, 1, 2, 28, 29, 30, 31, 3, 4, 5, 6, 7, 8, 9, 10, 11, 12, 13, 14, 15, 32, 33, 34, 35, 36, 37, 38, 39, 40, 41, 42, 43, 44, 45, 46, 47, 48, 49, 50, 51, 52, 53, 54, 55, 56, 57] (by decide +kernel) (by decide +kernel)
set_option maxRecDepth 20000 in
theorem gX8_payments_X8_mostGroups : GoodIn wsX8_payments (wsV RX8 229 RX8 yX8_mostGroups wsX8_mostGroups) := goodIn_app (goodIn_of _ (by decide +kernel)) ggX8_payments_X8_mostGroups
theorem dX8_payments_0 : decode cX8_payments 0 = .ok (.iconst 0, 1) := by decide +kernel
theorem dX8_payments_1 : decode cX8_payments 1 = .ok (.istore_n 1, 1) := by decide +kernel
theorem dX8_payments_2 : decode cX8_payments 2 = .ok (.iconst 0, 1) := by decide +kernel
theorem dX8_payments_3 : decode cX8_payments 3 = .ok (.istore_n 2, 1) := by decide +kernel
theorem dX8_payments_4 : decode cX8_payments 4 = .ok (.iload_n 2, 1) := by decide +kernel
theorem dX8_payments_5 : decode cX8_payments 5 = .ok (.aload_n 0, 1) := by decide +kernel
theorem dX8_payments_6 : decode cX8_payments 6 = .ok (.getfield 19, 3) := by decide +kernel
theorem dX8_payments_9 : decode cX8_payments 9 = .ok (.getfield 161, 3) := by decide +kernel
theorem dX8_payments_12 : decode cX8_payments 12 = .ok (.if_icmp .ge 23, 3) := by decide +kernel
theorem dX8_payments_15 : decode cX8_payments 15 = .ok (.aload_n 0, 1) := by decide +kernel
theorem dX8_payments_16 : decode cX8_payments 16 = .ok (.iload_n 2, 1) := by decide +kernel
theorem dX8_payments_17 : decode cX8_payments 17 = .ok (.invokevirtual 226, 3) := by decide +kernel
theorem dX8_payments_20 : decode cX8_payments 20 = .ok (.ifCond .eq 9, 3) := by decide +kernel
theorem dX8_payments_23 : decode cX8_payments 23 = .ok (.iload_n 1, 1) := by decide +kernel
theorem dX8_payments_24 : decode cX8_payments 24 = .ok (.iconst 1, 1) := by decide +kernel
theorem dX8_payments_25 : decode cX8_payments 25 = .ok (.iload_n 2, 1) := by decide +kernel
theorem dX8_payments_26 : decode cX8_payments 26 = .ok (.ishl, 1) := by decide +kernel
theorem dX8_payments_27 : decode cX8_payments 27 = .ok (.ior, 1) := by decide +kernel
theorem dX8_payments_28 : decode cX8_payments 28 = .ok (.istore_n 1, 1) := by decide +kernel
theorem dX8_payments_29 : decode cX8_payments 29 = .ok (.iinc 2 1, 3) := by decide +kernel
theorem dX8_payments_32 : decode cX8_payments 32 = .ok (.goto (-28), 3) := by decide +kernel
theorem dX8_payments_35 : decode cX8_payments 35 = .ok (.iload_n 1, 1) := by decide +kernel
theorem dX8_payments_36 : decode cX8_payments 36 = .ok (.invokestatic 211, 3) := by decide +kernel
theorem dX8_payments_39 : decode cX8_payments 39 = .ok (.aload_n 0, 1) := by decide +kernel
theorem dX8_payments_40 : decode cX8_payments 40 = .ok (.iload_n 1, 1) := by decide +kernel
theorem dX8_payments_41 : decode cX8_payments 41 = .ok (.invokevirtual 229, 3) := by decide +kernel
theorem dX8_payments_44 : decode cX8_payments 44 = .ok (.isub, 1) := by decide +kernel
theorem dX8_payments_45 : decode cX8_payments 45 = .ok (.ireturn, 1) := by decide +kernel
set_option maxRecDepth 20000 in
theorem ggX8_settled_X2_hasTenant : GoodIn wsX8_settled wsX2_hasTenant := goodIn_r _ [7, 8, 34, 35, 36, 37, 38, 39, 40, 41, 42, 43] (by decide +kernel) (by decide +kernel)
set_option maxRecDepth 20000 in
theorem gX8_settled_X2_hasTenant : GoodIn wsX8_settled (wsV RX8 108 RX2 yX2_hasTenant wsX2_hasTenant) := goodIn_app (goodIn_of _ (by decide +kernel)) ggX8_settled_X2_hasTenant
set_option maxRecDepth 20000 in
theorem ggX8_settled_X8_lackingShare : GoodIn wsX8_settled wsX8_lackingShare := goodIn_r _ [13, 14, 1, 15, 16, 17, 18, 19, 20, 21, 22, 23, 24, 25, 26, 27, 28, 29, 30, 31, 32, 33, 34, 35, 36, 37, 38, 39, 40, 41, 42, 43, 44, 45, 46, 47, 48] (by decide +kernel) (by decide +kernel)
set_option maxRecDepth 20000 in
theorem gX8_settled_X8_lackingShare : GoodIn wsX8_settled (wsV RX8 226 RX8 yX8_lackingShare wsX8_lackingShare) := goodIn_app (goodIn_of _ (by decide +kernel)) ggX8_settled_X8_lackingShare
theorem dX8_settled_0 : decode cX8_settled 0 = .ok (.aload_n 0, 1) := by decide +kernel
theorem dX8_settled_1 : decode cX8_settled 1 = .ok (.getfield 19, 3) := by decide +kernel
theorem dX8_settled_4 : decode cX8_settled 4 = .ok (.iload_n 1, 1) := by decide +kernel
theorem dX8_settled_5 : decode cX8_settled 5 = .ok (.invokevirtual 108, 3) := by decide +kernel
theorem dX8_settled_8 : decode cX8_settled 8 = .ok (.ifCond .eq 11, 3) := by decide +kernel
theorem dX8_settled_11 : decode cX8_settled 11 = .ok (.aload_n 0, 1) := by decide +kernel
theorem dX8_settled_12 : decode cX8_settled 12 = .ok (.iload_n 1, 1) := by decide +kernel
theorem dX8_settled_13 : decode cX8_settled 13 = .ok (.invokevirtual 226, 3) := by decide +kernel
theorem dX8_settled_16 : decode cX8_settled 16 = .ok (.goto 5, 3) := by decide +kernel
theorem dX8_settled_19 : decode cX8_settled 19 = .ok (.ldc 219, 2) := by decide +kernel
theorem dX8_settled_21 : decode cX8_settled 21 = .ok (.ireturn, 1) := by decide +kernel
set_option maxRecDepth 20000 in
theorem ggX8_spareHours_X2_hasRoom : GoodIn wsX8_spareHours wsX2_hasRoom := goodIn_r _ [9, 10, 37, 38, 39, 40, 41, 42, 43, 44, 45, 46] (by decide +kernel) (by decide +kernel)
set_option maxRecDepth 20000 in
theorem gX8_spareHours_X2_hasRoom : GoodIn wsX8_spareHours (wsV RX8 94 RX2 yX2_hasRoom wsX2_hasRoom) := goodIn_app (goodIn_of _ (by decide +kernel)) ggX8_spareHours_X2_hasRoom
set_option maxRecDepth 20000 in
theorem ggX8_spareHours_X2_keepsSilent : GoodIn wsX8_spareHours wsX2_keepsSilent := goodIn_r _ [14, 15, 16, 17, 18, 8, 19, 20, 37, 38, 39, 40, 41, 42, 43, 44, 45, 46] (by decide +kernel) (by decide +kernel)
set_option maxRecDepth 20000 in
theorem gX8_spareHours_X2_keepsSilent : GoodIn wsX8_spareHours (wsV RX8 232 RX2 yX2_keepsSilent wsX2_keepsSilent) := goodIn_app (goodIn_of _ (by decide +kernel)) ggX8_spareHours_X2_keepsSilent
theorem dX8_spareHours_0 : decode cX8_spareHours 0 = .ok (.aload_n 0, 1) := by decide +kernel
theorem dX8_spareHours_1 : decode cX8_spareHours 1 = .ok (.getfield 29, 3) := by decide +kernel
theorem dX8_spareHours_4 : decode cX8_spareHours 4 = .ok (.getfield 123, 3) := by decide +kernel
theorem dX8_spareHours_7 : decode cX8_spareHours 7 = .ok (.iload_n 1, 1) := by decide +kernel
theorem dX8_spareHours_8 : decode cX8_spareHours 8 = .ok (.iaload, 1) := by decide +kernel
theorem dX8_spareHours_9 : decode cX8_spareHours 9 = .ok (.istore_n 2, 1) := by decide +kernel
theorem dX8_spareHours_10 : decode cX8_spareHours 10 = .ok (.aload_n 0, 1) := by decide +kernel
theorem dX8_spareHours_11 : decode cX8_spareHours 11 = .ok (.getfield 19, 3) := by decide +kernel
theorem dX8_spareHours_14 : decode cX8_spareHours 14 = .ok (.iload_n 2, 1) := by decide +kernel
theorem dX8_spareHours_15 : decode cX8_spareHours 15 = .ok (.invokevirtual 94, 3) := by decide +kernel
theorem dX8_spareHours_18 : decode cX8_spareHours 18 = .ok (.ifCond .eq 24, 3) := by decide +kernel
theorem dX8_spareHours_21 : decode cX8_spareHours 21 = .ok (.aload_n 0, 1) := by decide +kernel
theorem dX8_spareHours_22 : decode cX8_spareHours 22 = .ok (.getfield 19, 3) := by decide +kernel
theorem dX8_spareHours_25 : decode cX8_spareHours 25 = .ok (.iload_n 1, 1) := by decide +kernel
theorem dX8_spareHours_26 : decode cX8_spareHours 26 = .ok (.invokevirtual 232, 3) := by decide +kernel
theorem dX8_spareHours_29 : decode cX8_spareHours 29 = .ok (.aload_n 0, 1) := by decide +kernel
theorem dX8_spareHours_30 : decode cX8_spareHours 30 = .ok (.getfield 19, 3) := by decide +kernel
theorem dX8_spareHours_33 : decode cX8_spareHours 33 = .ok (.getfield 98, 3) := by decide +kernel
theorem dX8_spareHours_36 : decode cX8_spareHours 36 = .ok (.iload_n 2, 1) := by decide +kernel
theorem dX8_spareHours_37 : decode cX8_spareHours 37 = .ok (.iaload, 1) := by decide +kernel
theorem dX8_spareHours_38 : decode cX8_spareHours 38 = .ok (.isub, 1) := by decide +kernel
theorem dX8_spareHours_39 : decode cX8_spareHours 39 = .ok (.goto 4, 3) := by decide +kernel
theorem dX8_spareHours_42 : decode cX8_spareHours 42 = .ok (.iconst 0, 1) := by decide +kernel
theorem dX8_spareHours_43 : decode cX8_spareHours 43 = .ok (.ireturn, 1) := by decide +kernel
set_option maxRecDepth 20000 in
theorem ggX8_hoursForSale_X8_spareHours : GoodIn wsX8_hoursForSale wsX8_spareHours := goodIn_r _ [12, 13, 14, 1, 15, 16, 17, 18, 19, 20, 21, 22, 23, 24, 25, 26, 27, 28, 29, 30, 31, 32, 33, 34, 35, 36, 37, 38, 39, 40, 41, 42, 53, 54, 55, 56, 57, 43, 44, 45, 46, 47, 48, 49, 50, 51, 52] (by decide +kernel) (by decide +kernel)
set_option maxRecDepth 20000 in
theorem gX8_hoursForSale_X8_spareHours : GoodIn wsX8_hoursForSale (wsV RX8 197 RX8 yX8_spareHours wsX8_spareHours) := goodIn_app (goodIn_of _ (by decide +kernel)) ggX8_hoursForSale_X8_spareHours
theorem dX8_hoursForSale_0 : decode cX8_hoursForSale 0 = .ok (.iconst 0, 1) := by decide +kernel
theorem dX8_hoursForSale_1 : decode cX8_hoursForSale 1 = .ok (.istore_n 2, 1) := by decide +kernel
theorem dX8_hoursForSale_2 : decode cX8_hoursForSale 2 = .ok (.iconst 0, 1) := by decide +kernel
theorem dX8_hoursForSale_3 : decode cX8_hoursForSale 3 = .ok (.istore_n 3, 1) := by decide +kernel
theorem dX8_hoursForSale_4 : decode cX8_hoursForSale 4 = .ok (.iload_n 3, 1) := by decide +kernel
theorem dX8_hoursForSale_5 : decode cX8_hoursForSale 5 = .ok (.aload_n 0, 1) := by decide +kernel
theorem dX8_hoursForSale_6 : decode cX8_hoursForSale 6 = .ok (.getfield 19, 3) := by decide +kernel
theorem dX8_hoursForSale_9 : decode cX8_hoursForSale 9 = .ok (.getfield 161, 3) := by decide +kernel
theorem dX8_hoursForSale_12 : decode cX8_hoursForSale 12 = .ok (.if_icmp .ge 34, 3) := by decide +kernel
theorem dX8_hoursForSale_15 : decode cX8_hoursForSale 15 = .ok (.aload_n 0, 1) := by decide +kernel
theorem dX8_hoursForSale_16 : decode cX8_hoursForSale 16 = .ok (.getfield 19, 3) := by decide +kernel
theorem dX8_hoursForSale_19 : decode cX8_hoursForSale 19 = .ok (.getfield 120, 3) := by decide +kernel
theorem dX8_hoursForSale_22 : decode cX8_hoursForSale 22 = .ok (.iload_n 3, 1) := by decide +kernel
theorem dX8_hoursForSale_23 : decode cX8_hoursForSale 23 = .ok (.iaload, 1) := by decide +kernel
theorem dX8_hoursForSale_24 : decode cX8_hoursForSale 24 = .ok (.iload_n 1, 1) := by decide +kernel
theorem dX8_hoursForSale_25 : decode cX8_hoursForSale 25 = .ok (.if_icmp .gt 15, 3) := by decide +kernel
theorem dX8_hoursForSale_28 : decode cX8_hoursForSale 28 = .ok (.iload_n 2, 1) := by decide +kernel
theorem dX8_hoursForSale_29 : decode cX8_hoursForSale 29 = .ok (.iconst 0, 1) := by decide +kernel
theorem dX8_hoursForSale_30 : decode cX8_hoursForSale 30 = .ok (.aload_n 0, 1) := by decide +kernel
theorem dX8_hoursForSale_31 : decode cX8_hoursForSale 31 = .ok (.iload_n 3, 1) := by decide +kernel
theorem dX8_hoursForSale_32 : decode cX8_hoursForSale 32 = .ok (.invokevirtual 197, 3) := by decide +kernel
theorem dX8_hoursForSale_35 : decode cX8_hoursForSale 35 = .ok (.invokestatic 170, 3) := by decide +kernel
theorem dX8_hoursForSale_38 : decode cX8_hoursForSale 38 = .ok (.iadd, 1) := by decide +kernel
theorem dX8_hoursForSale_39 : decode cX8_hoursForSale 39 = .ok (.istore_n 2, 1) := by decide +kernel
theorem dX8_hoursForSale_40 : decode cX8_hoursForSale 40 = .ok (.iinc 3 1, 3) := by decide +kernel
theorem dX8_hoursForSale_43 : decode cX8_hoursForSale 43 = .ok (.goto (-39), 3) := by decide +kernel
theorem dX8_hoursForSale_46 : decode cX8_hoursForSale 46 = .ok (.iload_n 2, 1) := by decide +kernel
theorem dX8_hoursForSale_47 : decode cX8_hoursForSale 47 = .ok (.ireturn, 1) := by decide +kernel
set_option maxRecDepth 20000 in
theorem ggX8_hoursBought_X8_spareHours : GoodIn wsX8_hoursBought wsX8_spareHours := goodIn_r _ [12, 13, 14, 1, 15, 16, 17, 18, 19, 20, 21, 22, 23, 24, 25, 26, 27, 28, 29, 30, 31, 32, 33, 34, 35, 36, 37, 38, 39, 40, 41, 42, 53, 54, 55, 56, 57, 43, 44, 45, 46, 47, 48, 49, 50, 51, 52] (by decide +kernel) (by decide +kernel)
set_option maxRecDepth 20000 in
theorem gX8_hoursBought_X8_spareHours : GoodIn wsX8_hoursBought (wsV RX8 197 RX8 yX8_spareHours wsX8_spareHours) := goodIn_app (goodIn_of _ (by decide +kernel)) ggX8_hoursBought_X8_spareHours
theorem dX8_hoursBought_0 : decode cX8_hoursBought 0 = .ok (.iconst 0, 1) := by decide +kernel
theorem dX8_hoursBought_1 : decode cX8_hoursBought 1 = .ok (.istore_n 2, 1) := by decide +kernel
theorem dX8_hoursBought_2 : decode cX8_hoursBought 2 = .ok (.iconst 0, 1) := by decide +kernel
theorem dX8_hoursBought_3 : decode cX8_hoursBought 3 = .ok (.istore_n 3, 1) := by decide +kernel
theorem dX8_hoursBought_4 : decode cX8_hoursBought 4 = .ok (.iload_n 3, 1) := by decide +kernel
theorem dX8_hoursBought_5 : decode cX8_hoursBought 5 = .ok (.aload_n 0, 1) := by decide +kernel
theorem dX8_hoursBought_6 : decode cX8_hoursBought 6 = .ok (.getfield 19, 3) := by decide +kernel
theorem dX8_hoursBought_9 : decode cX8_hoursBought 9 = .ok (.getfield 161, 3) := by decide +kernel
theorem dX8_hoursBought_12 : decode cX8_hoursBought 12 = .ok (.if_icmp .ge 35, 3) := by decide +kernel
theorem dX8_hoursBought_15 : decode cX8_hoursBought 15 = .ok (.aload_n 0, 1) := by decide +kernel
theorem dX8_hoursBought_16 : decode cX8_hoursBought 16 = .ok (.getfield 19, 3) := by decide +kernel
theorem dX8_hoursBought_19 : decode cX8_hoursBought 19 = .ok (.getfield 120, 3) := by decide +kernel
theorem dX8_hoursBought_22 : decode cX8_hoursBought 22 = .ok (.iload_n 3, 1) := by decide +kernel
theorem dX8_hoursBought_23 : decode cX8_hoursBought 23 = .ok (.iaload, 1) := by decide +kernel
theorem dX8_hoursBought_24 : decode cX8_hoursBought 24 = .ok (.iload_n 1, 1) := by decide +kernel
theorem dX8_hoursBought_25 : decode cX8_hoursBought 25 = .ok (.if_icmp .lt 16, 3) := by decide +kernel
theorem dX8_hoursBought_28 : decode cX8_hoursBought 28 = .ok (.iload_n 2, 1) := by decide +kernel
theorem dX8_hoursBought_29 : decode cX8_hoursBought 29 = .ok (.iconst 0, 1) := by decide +kernel
theorem dX8_hoursBought_30 : decode cX8_hoursBought 30 = .ok (.aload_n 0, 1) := by decide +kernel
theorem dX8_hoursBought_31 : decode cX8_hoursBought 31 = .ok (.iload_n 3, 1) := by decide +kernel
theorem dX8_hoursBought_32 : decode cX8_hoursBought 32 = .ok (.invokevirtual 197, 3) := by decide +kernel
theorem dX8_hoursBought_35 : decode cX8_hoursBought 35 = .ok (.ineg, 1) := by decide +kernel
theorem dX8_hoursBought_36 : decode cX8_hoursBought 36 = .ok (.invokestatic 170, 3) := by decide +kernel
theorem dX8_hoursBought_39 : decode cX8_hoursBought 39 = .ok (.iadd, 1) := by decide +kernel
theorem dX8_hoursBought_40 : decode cX8_hoursBought 40 = .ok (.istore_n 2, 1) := by decide +kernel
theorem dX8_hoursBought_41 : decode cX8_hoursBought 41 = .ok (.iinc 3 1, 3) := by decide +kernel
theorem dX8_hoursBought_44 : decode cX8_hoursBought 44 = .ok (.goto (-40), 3) := by decide +kernel
theorem dX8_hoursBought_47 : decode cX8_hoursBought 47 = .ok (.iload_n 2, 1) := by decide +kernel
theorem dX8_hoursBought_48 : decode cX8_hoursBought 48 = .ok (.ireturn, 1) := by decide +kernel
set_option maxRecDepth 20000 in
theorem ggX8_lackingShare_X5_allDebts : GoodIn wsX8_lackingShare wsX5_allDebts := goodIn_r _ [9, 10, 32, 33, 34, 35, 36] (by decide +kernel) (by decide +kernel)
set_option maxRecDepth 20000 in
theorem gX8_lackingShare_X5_allDebts : GoodIn wsX8_lackingShare (wsV RX8 179 RX5 yX5_allDebts wsX5_allDebts) := goodIn_app (goodIn_of _ (by decide +kernel)) ggX8_lackingShare_X5_allDebts
theorem dX8_lackingShare_0 : decode cX8_lackingShare 0 = .ok (.aload_n 0, 1) := by decide +kernel
theorem dX8_lackingShare_1 : decode cX8_lackingShare 1 = .ok (.getfield 29, 3) := by decide +kernel
theorem dX8_lackingShare_4 : decode cX8_lackingShare 4 = .ok (.invokevirtual 179, 3) := by decide +kernel
theorem dX8_lackingShare_7 : decode cX8_lackingShare 7 = .ok (.istore_n 2, 1) := by decide +kernel
theorem dX8_lackingShare_8 : decode cX8_lackingShare 8 = .ok (.aload_n 0, 1) := by decide +kernel
theorem dX8_lackingShare_9 : decode cX8_lackingShare 9 = .ok (.getfield 19, 3) := by decide +kernel
theorem dX8_lackingShare_12 : decode cX8_lackingShare 12 = .ok (.getfield 161, 3) := by decide +kernel
theorem dX8_lackingShare_15 : decode cX8_lackingShare 15 = .ok (.istore_n 3, 1) := by decide +kernel
theorem dX8_lackingShare_16 : decode cX8_lackingShare 16 = .ok (.iload_n 3, 1) := by decide +kernel
theorem dX8_lackingShare_17 : decode cX8_lackingShare 17 = .ok (.ifCond .ne 5, 3) := by decide +kernel
theorem dX8_lackingShare_20 : decode cX8_lackingShare 20 = .ok (.iconst 0, 1) := by decide +kernel
theorem dX8_lackingShare_21 : decode cX8_lackingShare 21 = .ok (.ireturn, 1) := by decide +kernel
theorem dX8_lackingShare_22 : decode cX8_lackingShare 22 = .ok (.iload_n 2, 1) := by decide +kernel
theorem dX8_lackingShare_23 : decode cX8_lackingShare 23 = .ok (.iload_n 3, 1) := by decide +kernel
theorem dX8_lackingShare_24 : decode cX8_lackingShare 24 = .ok (.idiv, 1) := by decide +kernel
theorem dX8_lackingShare_25 : decode cX8_lackingShare 25 = .ok (.iload_n 1, 1) := by decide +kernel
theorem dX8_lackingShare_26 : decode cX8_lackingShare 26 = .ok (.iload_n 2, 1) := by decide +kernel
theorem dX8_lackingShare_27 : decode cX8_lackingShare 27 = .ok (.iload_n 3, 1) := by decide +kernel
theorem dX8_lackingShare_28 : decode cX8_lackingShare 28 = .ok (.irem, 1) := by decide +kernel
theorem dX8_lackingShare_29 : decode cX8_lackingShare 29 = .ok (.if_icmp .ge 7, 3) := by decide +kernel
theorem dX8_lackingShare_32 : decode cX8_lackingShare 32 = .ok (.iconst 1, 1) := by decide +kernel
theorem dX8_lackingShare_33 : decode cX8_lackingShare 33 = .ok (.goto 4, 3) := by decide +kernel
theorem dX8_lackingShare_36 : decode cX8_lackingShare 36 = .ok (.iconst 0, 1) := by decide +kernel
theorem dX8_lackingShare_37 : decode cX8_lackingShare 37 = .ok (.iadd, 1) := by decide +kernel
theorem dX8_lackingShare_38 : decode cX8_lackingShare 38 = .ok (.istore 4, 2) := by decide +kernel
theorem dX8_lackingShare_40 : decode cX8_lackingShare 40 = .ok (.iload 4, 2) := by decide +kernel
theorem dX8_lackingShare_42 : decode cX8_lackingShare 42 = .ok (.aload_n 0, 1) := by decide +kernel
theorem dX8_lackingShare_43 : decode cX8_lackingShare 43 = .ok (.getfield 29, 3) := by decide +kernel
theorem dX8_lackingShare_46 : decode cX8_lackingShare 46 = .ok (.getfield 132, 3) := by decide +kernel
theorem dX8_lackingShare_49 : decode cX8_lackingShare 49 = .ok (.iload_n 1, 1) := by decide +kernel
theorem dX8_lackingShare_50 : decode cX8_lackingShare 50 = .ok (.iaload, 1) := by decide +kernel
theorem dX8_lackingShare_51 : decode cX8_lackingShare 51 = .ok (.isub, 1) := by decide +kernel
theorem dX8_lackingShare_52 : decode cX8_lackingShare 52 = .ok (.ireturn, 1) := by decide +kernel
set_option maxRecDepth 20000 in
theorem ggX8_mostGroups_X8_lackingShare : GoodIn wsX8_mostGroups wsX8_lackingShare := goodIn_r _ [12, 13, 2, 3, 14, 15, 16, 17, 18, 19, 20, 21, 22, 23, 24, 25, 26, 27, 28, 29, 30, 31, 32, 33, 34, 35, 36, 37, 38, 39, 40, 41, 42, 43, 44, 45, 46] (by decide +kernel) (by decide +kernel)
set_option maxRecDepth 20000 in
theorem gX8_mostGroups_X8_lackingShare : GoodIn wsX8_mostGroups (wsV RX8 226 RX8 yX8_lackingShare wsX8_lackingShare) := goodIn_app (goodIn_of _ (by decide +kernel)) ggX8_mostGroups_X8_lackingShare
theorem dX8_mostGroups_0 : decode cX8_mostGroups 0 = .ok (.aload_n 0, 1) := by decide +kernel
theorem dX8_mostGroups_1 : decode cX8_mostGroups 1 = .ok (.getfield 67, 3) := by decide +kernel
theorem dX8_mostGroups_4 : decode cX8_mostGroups 4 = .ok (.iconst 0, 1) := by decide +kernel
theorem dX8_mostGroups_5 : decode cX8_mostGroups 5 = .ok (.iconst 0, 1) := by decide +kernel
theorem dX8_mostGroups_6 : decode cX8_mostGroups 6 = .ok (.iastore, 1) := by decide +kernel
theorem dX8_mostGroups_7 : decode cX8_mostGroups 7 = .ok (.iconst 1, 1) := by decide +kernel
theorem dX8_mostGroups_8 : decode cX8_mostGroups 8 = .ok (.istore_n 2, 1) := by decide +kernel
theorem dX8_mostGroups_9 : decode cX8_mostGroups 9 = .ok (.iload_n 2, 1) := by decide +kernel
theorem dX8_mostGroups_10 : decode cX8_mostGroups 10 = .ok (.iload_n 1, 1) := by decide +kernel
theorem dX8_mostGroups_11 : decode cX8_mostGroups 11 = .ok (.if_icmp .gt 89, 3) := by decide +kernel
theorem dX8_mostGroups_14 : decode cX8_mostGroups 14 = .ok (.iconst 0, 1) := by decide +kernel
theorem dX8_mostGroups_15 : decode cX8_mostGroups 15 = .ok (.istore_n 3, 1) := by decide +kernel
theorem dX8_mostGroups_16 : decode cX8_mostGroups 16 = .ok (.iconst 0, 1) := by decide +kernel
theorem dX8_mostGroups_17 : decode cX8_mostGroups 17 = .ok (.istore 4, 2) := by decide +kernel
theorem dX8_mostGroups_19 : decode cX8_mostGroups 19 = .ok (.iconst 0, 1) := by decide +kernel
theorem dX8_mostGroups_20 : decode cX8_mostGroups 20 = .ok (.istore 5, 2) := by decide +kernel
theorem dX8_mostGroups_22 : decode cX8_mostGroups 22 = .ok (.iload 5, 2) := by decide +kernel
theorem dX8_mostGroups_24 : decode cX8_mostGroups 24 = .ok (.aload_n 0, 1) := by decide +kernel
theorem dX8_mostGroups_25 : decode cX8_mostGroups 25 = .ok (.getfield 19, 3) := by decide +kernel
theorem dX8_mostGroups_28 : decode cX8_mostGroups 28 = .ok (.getfield 161, 3) := by decide +kernel
theorem dX8_mostGroups_31 : decode cX8_mostGroups 31 = .ok (.if_icmp .ge 45, 3) := by decide +kernel
theorem dX8_mostGroups_34 : decode cX8_mostGroups 34 = .ok (.iload_n 2, 1) := by decide +kernel
theorem dX8_mostGroups_35 : decode cX8_mostGroups 35 = .ok (.iload 5, 2) := by decide +kernel
theorem dX8_mostGroups_37 : decode cX8_mostGroups 37 = .ok (.ishr, 1) := by decide +kernel
theorem dX8_mostGroups_38 : decode cX8_mostGroups 38 = .ok (.iconst 1, 1) := by decide +kernel
theorem dX8_mostGroups_39 : decode cX8_mostGroups 39 = .ok (.iand, 1) := by decide +kernel
theorem dX8_mostGroups_40 : decode cX8_mostGroups 40 = .ok (.ifCond .eq 30, 3) := by decide +kernel
theorem dX8_mostGroups_43 : decode cX8_mostGroups 43 = .ok (.iload_n 3, 1) := by decide +kernel
theorem dX8_mostGroups_44 : decode cX8_mostGroups 44 = .ok (.aload_n 0, 1) := by decide +kernel
theorem dX8_mostGroups_45 : decode cX8_mostGroups 45 = .ok (.getfield 67, 3) := by decide +kernel
theorem dX8_mostGroups_48 : decode cX8_mostGroups 48 = .ok (.iload_n 2, 1) := by decide +kernel
theorem dX8_mostGroups_49 : decode cX8_mostGroups 49 = .ok (.iconst 1, 1) := by decide +kernel
theorem dX8_mostGroups_50 : decode cX8_mostGroups 50 = .ok (.iload 5, 2) := by decide +kernel
theorem dX8_mostGroups_52 : decode cX8_mostGroups 52 = .ok (.ishl, 1) := by decide +kernel
theorem dX8_mostGroups_53 : decode cX8_mostGroups 53 = .ok (.ixor, 1) := by decide +kernel
theorem dX8_mostGroups_54 : decode cX8_mostGroups 54 = .ok (.iaload, 1) := by decide +kernel
theorem dX8_mostGroups_55 : decode cX8_mostGroups 55 = .ok (.invokestatic 170, 3) := by decide +kernel
theorem dX8_mostGroups_58 : decode cX8_mostGroups 58 = .ok (.istore_n 3, 1) := by decide +kernel
theorem dX8_mostGroups_59 : decode cX8_mostGroups 59 = .ok (.iload 4, 2) := by decide +kernel
theorem dX8_mostGroups_61 : decode cX8_mostGroups 61 = .ok (.aload_n 0, 1) := by decide +kernel
theorem dX8_mostGroups_62 : decode cX8_mostGroups 62 = .ok (.iload 5, 2) := by decide +kernel
theorem dX8_mostGroups_64 : decode cX8_mostGroups 64 = .ok (.invokevirtual 226, 3) := by decide +kernel
theorem dX8_mostGroups_67 : decode cX8_mostGroups 67 = .ok (.iadd, 1) := by decide +kernel
theorem dX8_mostGroups_68 : decode cX8_mostGroups 68 = .ok (.istore 4, 2) := by decide +kernel
theorem dX8_mostGroups_70 : decode cX8_mostGroups 70 = .ok (.iinc 5 1, 3) := by decide +kernel
theorem dX8_mostGroups_73 : decode cX8_mostGroups 73 = .ok (.goto (-51), 3) := by decide +kernel
theorem dX8_mostGroups_76 : decode cX8_mostGroups 76 = .ok (.aload_n 0, 1) := by decide +kernel
theorem dX8_mostGroups_77 : decode cX8_mostGroups 77 = .ok (.getfield 67, 3) := by decide +kernel
theorem dX8_mostGroups_80 : decode cX8_mostGroups 80 = .ok (.iload_n 2, 1) := by decide +kernel
theorem dX8_mostGroups_81 : decode cX8_mostGroups 81 = .ok (.iload 4, 2) := by decide +kernel
theorem dX8_mostGroups_83 : decode cX8_mostGroups 83 = .ok (.ifCond .ne 9, 3) := by decide +kernel
theorem dX8_mostGroups_86 : decode cX8_mostGroups 86 = .ok (.iload_n 3, 1) := by decide +kernel
theorem dX8_mostGroups_87 : decode cX8_mostGroups 87 = .ok (.iconst 1, 1) := by decide +kernel
theorem dX8_mostGroups_88 : decode cX8_mostGroups 88 = .ok (.iadd, 1) := by decide +kernel
theorem dX8_mostGroups_89 : decode cX8_mostGroups 89 = .ok (.goto 4, 3) := by decide +kernel
theorem dX8_mostGroups_92 : decode cX8_mostGroups 92 = .ok (.iload_n 3, 1) := by decide +kernel
theorem dX8_mostGroups_93 : decode cX8_mostGroups 93 = .ok (.iastore, 1) := by decide +kernel
theorem dX8_mostGroups_94 : decode cX8_mostGroups 94 = .ok (.iinc 2 1, 3) := by decide +kernel
theorem dX8_mostGroups_97 : decode cX8_mostGroups 97 = .ok (.goto (-88), 3) := by decide +kernel
theorem dX8_mostGroups_100 : decode cX8_mostGroups 100 = .ok (.aload_n 0, 1) := by decide +kernel
theorem dX8_mostGroups_101 : decode cX8_mostGroups 101 = .ok (.getfield 67, 3) := by decide +kernel
theorem dX8_mostGroups_104 : decode cX8_mostGroups 104 = .ok (.iload_n 1, 1) := by decide +kernel
theorem dX8_mostGroups_105 : decode cX8_mostGroups 105 = .ok (.iaload, 1) := by decide +kernel
theorem dX8_mostGroups_106 : decode cX8_mostGroups 106 = .ok (.ireturn, 1) := by decide +kernel
set_option maxRecDepth 20000 in
theorem ggX8_told_X2_hasTenant : GoodIn wsX8_told wsX2_hasTenant := goodIn_r _ [6, 7, 41, 42, 43, 44, 45, 46, 47, 48, 49, 50] (by decide +kernel) (by decide +kernel)
set_option maxRecDepth 20000 in
theorem gX8_told_X2_hasTenant : GoodIn wsX8_told (wsV RX8 108 RX2 yX2_hasTenant wsX2_hasTenant) := goodIn_app (goodIn_of _ (by decide +kernel)) ggX8_told_X2_hasTenant
set_option maxRecDepth 20000 in
theorem ggX8_told_X2_everybody : GoodIn wsX8_told wsX2_everybody := goodIn_r _ [11, 7, 41, 42, 43, 44, 45, 46, 47, 48, 49, 50] (by decide +kernel) (by decide +kernel)
set_option maxRecDepth 20000 in
theorem gX8_told_X2_everybody : GoodIn wsX8_told (wsV RX8 147 RX2 yX2_everybody wsX2_everybody) := goodIn_app (goodIn_of _ (by decide +kernel)) ggX8_told_X2_everybody
set_option maxRecDepth 20000 in
theorem ggX8_told_J6_bitCount_0f7a4 : GoodIn wsX8_told wsJ6_bitCount_0f7a4 := goodIn_r _ [15, 16, 17, 18] (by decide +kernel) (by decide +kernel)
set_option maxRecDepth 20000 in
theorem gX8_told_J6_bitCount_0f7a4 : GoodIn wsX8_told (va_wsS RX8 211 yJ6_bitCount_0f7a4 wsJ6_bitCount_0f7a4) := goodIn_app (goodIn_of _ (by decide +kernel)) ggX8_told_J6_bitCount_0f7a4
set_option maxRecDepth 20000 in
theorem ggX8_told_X8_allKnow : GoodIn wsX8_told wsX8_allKnow := goodIn_r _ [23, 1, 24, 25, 26, 27, 5, 28, 7, 29, 8, 9, 10, 11, 30, 31, 32, 33, 34, 35, 36, 37, 38, 39, 40, 41, 42, 43, 44, 45, 46, 47, 48, 49, 50] (by decide +kernel) (by decide +kernel)
set_option maxRecDepth 20000 in
theorem gX8_told_X8_allKnow : GoodIn wsX8_told (wsV RX8 235 RX8 yX8_allKnow wsX8_allKnow) := goodIn_app (goodIn_of _ (by decide +kernel)) ggX8_told_X8_allKnow
theorem dX8_told_0 : decode cX8_told 0 = .ok (.aload_n 0, 1) := by decide +kernel
theorem dX8_told_1 : decode cX8_told 1 = .ok (.getfield 19, 3) := by decide +kernel
theorem dX8_told_4 : decode cX8_told 4 = .ok (.iload_n 1, 1) := by decide +kernel
theorem dX8_told_5 : decode cX8_told 5 = .ok (.invokevirtual 108, 3) := by decide +kernel
theorem dX8_told_8 : decode cX8_told 8 = .ok (.ifCond .ne 5, 3) := by decide +kernel
theorem dX8_told_11 : decode cX8_told 11 = .ok (.iconst (-1), 1) := by decide +kernel
theorem dX8_told_12 : decode cX8_told 12 = .ok (.ireturn, 1) := by decide +kernel
theorem dX8_told_13 : decode cX8_told 13 = .ok (.bipush (-9), 2) := by decide +kernel
theorem dX8_told_15 : decode cX8_told 15 = .ok (.istore_n 2, 1) := by decide +kernel
theorem dX8_told_16 : decode cX8_told 16 = .ok (.bipush 7, 2) := by decide +kernel
theorem dX8_told_18 : decode cX8_told 18 = .ok (.istore_n 3, 1) := by decide +kernel
theorem dX8_told_19 : decode cX8_told 19 = .ok (.iconst 0, 1) := by decide +kernel
theorem dX8_told_20 : decode cX8_told 20 = .ok (.istore 4, 2) := by decide +kernel
theorem dX8_told_22 : decode cX8_told 22 = .ok (.iload 4, 2) := by decide +kernel
theorem dX8_told_24 : decode cX8_told 24 = .ok (.aload_n 0, 1) := by decide +kernel
theorem dX8_told_25 : decode cX8_told 25 = .ok (.getfield 19, 3) := by decide +kernel
theorem dX8_told_28 : decode cX8_told 28 = .ok (.invokevirtual 147, 3) := by decide +kernel
theorem dX8_told_31 : decode cX8_told 31 = .ok (.if_icmp .gt 38, 3) := by decide +kernel
theorem dX8_told_34 : decode cX8_told 34 = .ok (.iload 4, 2) := by decide +kernel
theorem dX8_told_36 : decode cX8_told 36 = .ok (.invokestatic 211, 3) := by decide +kernel
theorem dX8_told_39 : decode cX8_told 39 = .ok (.istore 5, 2) := by decide +kernel
theorem dX8_told_41 : decode cX8_told 41 = .ok (.iload 5, 2) := by decide +kernel
theorem dX8_told_43 : decode cX8_told 43 = .ok (.iload_n 3, 1) := by decide +kernel
theorem dX8_told_44 : decode cX8_told 44 = .ok (.if_icmp .ge 19, 3) := by decide +kernel
theorem dX8_told_47 : decode cX8_told 47 = .ok (.aload_n 0, 1) := by decide +kernel
theorem dX8_told_48 : decode cX8_told 48 = .ok (.iload_n 1, 1) := by decide +kernel
theorem dX8_told_49 : decode cX8_told 49 = .ok (.iload 4, 2) := by decide +kernel
theorem dX8_told_51 : decode cX8_told 51 = .ok (.invokevirtual 235, 3) := by decide +kernel
theorem dX8_told_54 : decode cX8_told 54 = .ok (.ifCond .eq 9, 3) := by decide +kernel
theorem dX8_told_57 : decode cX8_told 57 = .ok (.iload 4, 2) := by decide +kernel
theorem dX8_told_59 : decode cX8_told 59 = .ok (.istore_n 2, 1) := by decide +kernel
theorem dX8_told_60 : decode cX8_told 60 = .ok (.iload 5, 2) := by decide +kernel
theorem dX8_told_62 : decode cX8_told 62 = .ok (.istore_n 3, 1) := by decide +kernel
theorem dX8_told_63 : decode cX8_told 63 = .ok (.iinc 4 1, 3) := by decide +kernel
theorem dX8_told_66 : decode cX8_told 66 = .ok (.goto (-44), 3) := by decide +kernel
theorem dX8_told_69 : decode cX8_told 69 = .ok (.iload_n 2, 1) := by decide +kernel
theorem dX8_told_70 : decode cX8_told 70 = .ok (.ireturn, 1) := by decide +kernel
set_option maxRecDepth 20000 in
theorem ggX8_rounds_X2_hasTenant : GoodIn wsX8_rounds wsX2_hasTenant := goodIn_r _ [7, 8, 29, 30, 31, 32, 33, 34, 35, 36, 37, 38] (by decide +kernel) (by decide +kernel)
set_option maxRecDepth 20000 in
theorem gX8_rounds_X2_hasTenant : GoodIn wsX8_rounds (wsV RX8 108 RX2 yX2_hasTenant wsX2_hasTenant) := goodIn_app (goodIn_of _ (by decide +kernel)) ggX8_rounds_X2_hasTenant
set_option maxRecDepth 20000 in
theorem ggX8_rounds_X2_everybody : GoodIn wsX8_rounds wsX2_everybody := goodIn_r _ [12, 8, 29, 30, 31, 32, 33, 34, 35, 36, 37, 38] (by decide +kernel) (by decide +kernel)
set_option maxRecDepth 20000 in
theorem gX8_rounds_X2_everybody : GoodIn wsX8_rounds (wsV RX8 147 RX2 yX2_everybody wsX2_everybody) := goodIn_app (goodIn_of _ (by decide +kernel)) ggX8_rounds_X2_everybody
set_option maxRecDepth 20000 in
theorem ggX8_rounds_X2_hearers : GoodIn wsX8_rounds wsX2_hearers := goodIn_r _ [16, 8, 17, 29, 30, 31, 32, 33, 34, 35, 36, 37, 38] (by decide +kernel) (by decide +kernel)
set_option maxRecDepth 20000 in
theorem gX8_rounds_X2_hearers : GoodIn wsX8_rounds (wsV RX8 239 RX2 yX2_hearers wsX2_hearers) := goodIn_app (goodIn_of _ (by decide +kernel)) ggX8_rounds_X2_hearers
theorem dX8_rounds_0 : decode cX8_rounds 0 = .ok (.aload_n 0, 1) := by decide +kernel
theorem dX8_rounds_1 : decode cX8_rounds 1 = .ok (.getfield 19, 3) := by decide +kernel
theorem dX8_rounds_4 : decode cX8_rounds 4 = .ok (.iload_n 1, 1) := by decide +kernel
theorem dX8_rounds_5 : decode cX8_rounds 5 = .ok (.invokevirtual 108, 3) := by decide +kernel
theorem dX8_rounds_8 : decode cX8_rounds 8 = .ok (.ifCond .ne 5, 3) := by decide +kernel
theorem dX8_rounds_11 : decode cX8_rounds 11 = .ok (.iconst (-1), 1) := by decide +kernel
theorem dX8_rounds_12 : decode cX8_rounds 12 = .ok (.ireturn, 1) := by decide +kernel
theorem dX8_rounds_13 : decode cX8_rounds 13 = .ok (.iconst 1, 1) := by decide +kernel
theorem dX8_rounds_14 : decode cX8_rounds 14 = .ok (.iload_n 1, 1) := by decide +kernel
theorem dX8_rounds_15 : decode cX8_rounds 15 = .ok (.ishl, 1) := by decide +kernel
theorem dX8_rounds_16 : decode cX8_rounds 16 = .ok (.istore_n 2, 1) := by decide +kernel
theorem dX8_rounds_17 : decode cX8_rounds 17 = .ok (.iconst 0, 1) := by decide +kernel
theorem dX8_rounds_18 : decode cX8_rounds 18 = .ok (.istore_n 3, 1) := by decide +kernel
theorem dX8_rounds_19 : decode cX8_rounds 19 = .ok (.iload_n 3, 1) := by decide +kernel
theorem dX8_rounds_20 : decode cX8_rounds 20 = .ok (.aload_n 0, 1) := by decide +kernel
theorem dX8_rounds_21 : decode cX8_rounds 21 = .ok (.getfield 19, 3) := by decide +kernel
theorem dX8_rounds_24 : decode cX8_rounds 24 = .ok (.getfield 161, 3) := by decide +kernel
theorem dX8_rounds_27 : decode cX8_rounds 27 = .ok (.if_icmp .ge 33, 3) := by decide +kernel
theorem dX8_rounds_30 : decode cX8_rounds 30 = .ok (.iload_n 2, 1) := by decide +kernel
theorem dX8_rounds_31 : decode cX8_rounds 31 = .ok (.aload_n 0, 1) := by decide +kernel
theorem dX8_rounds_32 : decode cX8_rounds 32 = .ok (.getfield 19, 3) := by decide +kernel
theorem dX8_rounds_35 : decode cX8_rounds 35 = .ok (.invokevirtual 147, 3) := by decide +kernel
theorem dX8_rounds_38 : decode cX8_rounds 38 = .ok (.if_icmp .ne 5, 3) := by decide +kernel
theorem dX8_rounds_41 : decode cX8_rounds 41 = .ok (.iload_n 3, 1) := by decide +kernel
theorem dX8_rounds_42 : decode cX8_rounds 42 = .ok (.ireturn, 1) := by decide +kernel
theorem dX8_rounds_43 : decode cX8_rounds 43 = .ok (.iload_n 2, 1) := by decide +kernel
theorem dX8_rounds_44 : decode cX8_rounds 44 = .ok (.aload_n 0, 1) := by decide +kernel
theorem dX8_rounds_45 : decode cX8_rounds 45 = .ok (.getfield 19, 3) := by decide +kernel
theorem dX8_rounds_48 : decode cX8_rounds 48 = .ok (.iload_n 2, 1) := by decide +kernel
theorem dX8_rounds_49 : decode cX8_rounds 49 = .ok (.invokevirtual 239, 3) := by decide +kernel
theorem dX8_rounds_52 : decode cX8_rounds 52 = .ok (.ior, 1) := by decide +kernel
theorem dX8_rounds_53 : decode cX8_rounds 53 = .ok (.istore_n 2, 1) := by decide +kernel

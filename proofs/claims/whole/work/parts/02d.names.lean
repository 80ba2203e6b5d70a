theorem dX8_rounds_54 : decode cX8_rounds 54 = .ok (.iinc 3 1, 3) := by decide +kernel
theorem dX8_rounds_57 : decode cX8_rounds 57 = .ok (.goto (-38), 3) := by decide +kernel
theorem dX8_rounds_60 : decode cX8_rounds 60 = .ok (.bipush (-9), 2) := by decide +kernel
theorem dX8_rounds_62 : decode cX8_rounds 62 = .ok (.ireturn, 1) := by decide +kernel
set_option maxRecDepth 20000 in
theorem ggX8_watch_X2_everybody : GoodIn wsX8_watch wsX2_everybody := goodIn_r _ [7, 8, 33, 34, 35, 36, 37, 38, 39, 40, 41, 42] (by decide +kernel) (by decide +kernel)
set_option maxRecDepth 20000 in
theorem gX8_watch_X2_everybody : GoodIn wsX8_watch (wsV RX8 147 RX2 yX2_everybody wsX2_everybody) := goodIn_app (goodIn_of _ (by decide +kernel)) ggX8_watch_X2_everybody
set_option maxRecDepth 20000 in
theorem ggX8_watch_J6_bitCount_0f7a4 : GoodIn wsX8_watch wsJ6_bitCount_0f7a4 := goodIn_r _ [12, 13, 14, 15] (by decide +kernel) (by decide +kernel)
set_option maxRecDepth 20000 in
theorem gX8_watch_J6_bitCount_0f7a4 : GoodIn wsX8_watch (va_wsS RX8 211 yJ6_bitCount_0f7a4 wsJ6_bitCount_0f7a4) := goodIn_app (goodIn_of _ (by decide +kernel)) ggX8_watch_J6_bitCount_0f7a4
set_option maxRecDepth 20000 in
theorem ggX8_watch_X2_seenFrom : GoodIn wsX8_watch wsX2_seenFrom := goodIn_r _ [19, 20, 21, 33, 34, 35, 36, 37, 38, 39, 40, 41, 42] (by decide +kernel) (by decide +kernel)
set_option maxRecDepth 20000 in
theorem gX8_watch_X2_seenFrom : GoodIn wsX8_watch (wsV RX8 245 RX2 yX2_seenFrom wsX2_seenFrom) := goodIn_app (goodIn_of _ (by decide +kernel)) ggX8_watch_X2_seenFrom
theorem dX8_watch_0 : decode cX8_watch 0 = .ok (.iload_n 1, 1) := by decide +kernel
theorem dX8_watch_1 : decode cX8_watch 1 = .ok (.ifCond .lt 14, 3) := by decide +kernel
theorem dX8_watch_4 : decode cX8_watch 4 = .ok (.iload_n 1, 1) := by decide +kernel
theorem dX8_watch_5 : decode cX8_watch 5 = .ok (.aload_n 0, 1) := by decide +kernel
theorem dX8_watch_6 : decode cX8_watch 6 = .ok (.getfield 19, 3) := by decide +kernel
theorem dX8_watch_9 : decode cX8_watch 9 = .ok (.invokevirtual 147, 3) := by decide +kernel
theorem dX8_watch_12 : decode cX8_watch 12 = .ok (.if_icmp .le 5, 3) := by decide +kernel
theorem dX8_watch_15 : decode cX8_watch 15 = .ok (.iconst (-1), 1) := by decide +kernel
theorem dX8_watch_16 : decode cX8_watch 16 = .ok (.ireturn, 1) := by decide +kernel
theorem dX8_watch_17 : decode cX8_watch 17 = .ok (.bipush (-9), 2) := by decide +kernel
theorem dX8_watch_19 : decode cX8_watch 19 = .ok (.istore_n 2, 1) := by decide +kernel
theorem dX8_watch_20 : decode cX8_watch 20 = .ok (.bipush 6, 2) := by decide +kernel
theorem dX8_watch_22 : decode cX8_watch 22 = .ok (.istore_n 3, 1) := by decide +kernel
theorem dX8_watch_23 : decode cX8_watch 23 = .ok (.iconst 0, 1) := by decide +kernel
theorem dX8_watch_24 : decode cX8_watch 24 = .ok (.istore 4, 2) := by decide +kernel
theorem dX8_watch_26 : decode cX8_watch 26 = .ok (.iload 4, 2) := by decide +kernel
theorem dX8_watch_28 : decode cX8_watch 28 = .ok (.iconst 1, 1) := by decide +kernel
theorem dX8_watch_29 : decode cX8_watch 29 = .ok (.aload_n 0, 1) := by decide +kernel
theorem dX8_watch_30 : decode cX8_watch 30 = .ok (.getfield 19, 3) := by decide +kernel
theorem dX8_watch_33 : decode cX8_watch 33 = .ok (.getfield 242, 3) := by decide +kernel
theorem dX8_watch_36 : decode cX8_watch 36 = .ok (.ishl, 1) := by decide +kernel
theorem dX8_watch_37 : decode cX8_watch 37 = .ok (.if_icmp .ge 44, 3) := by decide +kernel
theorem dX8_watch_40 : decode cX8_watch 40 = .ok (.iload 4, 2) := by decide +kernel
theorem dX8_watch_42 : decode cX8_watch 42 = .ok (.invokestatic 211, 3) := by decide +kernel
theorem dX8_watch_45 : decode cX8_watch 45 = .ok (.istore 5, 2) := by decide +kernel
theorem dX8_watch_47 : decode cX8_watch 47 = .ok (.iload 5, 2) := by decide +kernel
theorem dX8_watch_49 : decode cX8_watch 49 = .ok (.iload_n 3, 1) := by decide +kernel
theorem dX8_watch_50 : decode cX8_watch 50 = .ok (.if_icmp .ge 25, 3) := by decide +kernel
theorem dX8_watch_53 : decode cX8_watch 53 = .ok (.iload_n 1, 1) := by decide +kernel
theorem dX8_watch_54 : decode cX8_watch 54 = .ok (.aload_n 0, 1) := by decide +kernel
theorem dX8_watch_55 : decode cX8_watch 55 = .ok (.getfield 19, 3) := by decide +kernel
theorem dX8_watch_58 : decode cX8_watch 58 = .ok (.iload 4, 2) := by decide +kernel
theorem dX8_watch_60 : decode cX8_watch 60 = .ok (.invokevirtual 245, 3) := by decide +kernel
theorem dX8_watch_63 : decode cX8_watch 63 = .ok (.iconst (-1), 1) := by decide +kernel
theorem dX8_watch_64 : decode cX8_watch 64 = .ok (.ixor, 1) := by decide +kernel
theorem dX8_watch_65 : decode cX8_watch 65 = .ok (.iand, 1) := by decide +kernel
theorem dX8_watch_66 : decode cX8_watch 66 = .ok (.ifCond .ne 9, 3) := by decide +kernel
theorem dX8_watch_69 : decode cX8_watch 69 = .ok (.iload 4, 2) := by decide +kernel
theorem dX8_watch_71 : decode cX8_watch 71 = .ok (.istore_n 2, 1) := by decide +kernel
theorem dX8_watch_72 : decode cX8_watch 72 = .ok (.iload 5, 2) := by decide +kernel
theorem dX8_watch_74 : decode cX8_watch 74 = .ok (.istore_n 3, 1) := by decide +kernel
theorem dX8_watch_75 : decode cX8_watch 75 = .ok (.iinc 4 1, 3) := by decide +kernel
theorem dX8_watch_78 : decode cX8_watch 78 = .ok (.goto (-52), 3) := by decide +kernel
theorem dX8_watch_81 : decode cX8_watch 81 = .ok (.iload_n 2, 1) := by decide +kernel
theorem dX8_watch_82 : decode cX8_watch 82 = .ok (.ireturn, 1) := by decide +kernel
set_option maxRecDepth 20000 in
theorem ggX8_odds_X8_spareHours : GoodIn wsX8_odds wsX8_spareHours := goodIn_r _ [11, 4, 5, 2, 12, 13, 14, 15, 16, 17, 18, 19, 20, 21, 22, 23, 24, 25, 26, 27, 28, 32, 33, 34, 35, 36, 37, 38, 39, 40, 41, 42, 53, 54, 55, 56, 57, 43, 44, 45, 46, 47, 48, 49, 50, 51, 52] (by decide +kernel) (by decide +kernel)
set_option maxRecDepth 20000 in
theorem gX8_odds_X8_spareHours : GoodIn wsX8_odds (wsV RX8 197 RX8 yX8_spareHours wsX8_spareHours) := goodIn_app (goodIn_of _ (by decide +kernel)) ggX8_odds_X8_spareHours
set_option maxRecDepth 20000 in
theorem ggX8_odds_X8_commonDivisor : GoodIn wsX8_odds wsX8_commonDivisor := goodIn_r _ [31] (by decide +kernel) (by decide +kernel)
set_option maxRecDepth 20000 in
theorem gX8_odds_X8_commonDivisor : GoodIn wsX8_odds (va_wsS RX8 252 yX8_commonDivisor wsX8_commonDivisor) := goodIn_app (goodIn_of _ (by decide +kernel)) ggX8_odds_X8_commonDivisor
theorem dX8_odds_0 : decode cX8_odds 0 = .ok (.iload_n 1, 1) := by decide +kernel
theorem dX8_odds_1 : decode cX8_odds 1 = .ok (.ifCond .lt 18, 3) := by decide +kernel
theorem dX8_odds_4 : decode cX8_odds 4 = .ok (.iload_n 1, 1) := by decide +kernel
theorem dX8_odds_5 : decode cX8_odds 5 = .ok (.bipush 10, 2) := by decide +kernel
theorem dX8_odds_7 : decode cX8_odds 7 = .ok (.if_icmp .gt 12, 3) := by decide +kernel
theorem dX8_odds_10 : decode cX8_odds 10 = .ok (.iload_n 2, 1) := by decide +kernel
theorem dX8_odds_11 : decode cX8_odds 11 = .ok (.ifCond .lt 8, 3) := by decide +kernel
theorem dX8_odds_14 : decode cX8_odds 14 = .ok (.iload_n 2, 1) := by decide +kernel
theorem dX8_odds_15 : decode cX8_odds 15 = .ok (.iconst 1, 1) := by decide +kernel
theorem dX8_odds_16 : decode cX8_odds 16 = .ok (.if_icmp .le 7, 3) := by decide +kernel
theorem dX8_odds_19 : decode cX8_odds 19 = .ok (.ldc2_w 248, 3) := by decide +kernel
theorem dX8_odds_22 : decode cX8_odds 22 = .ok (.lreturn, 1) := by decide +kernel
theorem dX8_odds_23 : decode cX8_odds 23 = .ok (.lconst 1, 1) := by decide +kernel
theorem dX8_odds_24 : decode cX8_odds 24 = .ok (.lstore_n 3, 1) := by decide +kernel
theorem dX8_odds_25 : decode cX8_odds 25 = .ok (.lconst 1, 1) := by decide +kernel
theorem dX8_odds_26 : decode cX8_odds 26 = .ok (.lstore 5, 2) := by decide +kernel
theorem dX8_odds_28 : decode cX8_odds 28 = .ok (.iconst 0, 1) := by decide +kernel
theorem dX8_odds_29 : decode cX8_odds 29 = .ok (.istore 7, 2) := by decide +kernel
theorem dX8_odds_31 : decode cX8_odds 31 = .ok (.iload 7, 2) := by decide +kernel
theorem dX8_odds_33 : decode cX8_odds 33 = .ok (.aload_n 0, 1) := by decide +kernel
theorem dX8_odds_34 : decode cX8_odds 34 = .ok (.getfield 19, 3) := by decide +kernel
theorem dX8_odds_37 : decode cX8_odds 37 = .ok (.getfield 161, 3) := by decide +kernel
theorem dX8_odds_40 : decode cX8_odds 40 = .ok (.if_icmp .ge 63, 3) := by decide +kernel
theorem dX8_odds_43 : decode cX8_odds 43 = .ok (.aload_n 0, 1) := by decide +kernel
theorem dX8_odds_44 : decode cX8_odds 44 = .ok (.getfield 29, 3) := by decide +kernel
theorem dX8_odds_47 : decode cX8_odds 47 = .ok (.getfield 123, 3) := by decide +kernel
theorem dX8_odds_50 : decode cX8_odds 50 = .ok (.iload 7, 2) := by decide +kernel
theorem dX8_odds_52 : decode cX8_odds 52 = .ok (.iaload, 1) := by decide +kernel
theorem dX8_odds_53 : decode cX8_odds 53 = .ok (.bipush (-9), 2) := by decide +kernel
theorem dX8_odds_55 : decode cX8_odds 55 = .ok (.if_icmp .eq 42, 3) := by decide +kernel
theorem dX8_odds_58 : decode cX8_odds 58 = .ok (.aload_n 0, 1) := by decide +kernel
theorem dX8_odds_59 : decode cX8_odds 59 = .ok (.iload 7, 2) := by decide +kernel
theorem dX8_odds_61 : decode cX8_odds 61 = .ok (.invokevirtual 197, 3) := by decide +kernel
theorem dX8_odds_64 : decode cX8_odds 64 = .ok (.iconst 2, 1) := by decide +kernel
theorem dX8_odds_65 : decode cX8_odds 65 = .ok (.if_icmp .ge 32, 3) := by decide +kernel
theorem dX8_odds_68 : decode cX8_odds 68 = .ok (.lload_n 3, 1) := by decide +kernel
theorem dX8_odds_69 : decode cX8_odds 69 = .ok (.aload_n 0, 1) := by decide +kernel
theorem dX8_odds_70 : decode cX8_odds 70 = .ok (.iload 7, 2) := by decide +kernel
theorem dX8_odds_72 : decode cX8_odds 72 = .ok (.invokevirtual 197, 3) := by decide +kernel
theorem dX8_odds_75 : decode cX8_odds 75 = .ok (.ifCond .ge 7, 3) := by decide +kernel
theorem dX8_odds_78 : decode cX8_odds 78 = .ok (.lconst 0, 1) := by decide +kernel
theorem dX8_odds_79 : decode cX8_odds 79 = .ok (.goto 8, 3) := by decide +kernel
theorem dX8_odds_82 : decode cX8_odds 82 = .ok (.bipush 10, 2) := by decide +kernel
theorem dX8_odds_84 : decode cX8_odds 84 = .ok (.iload_n 1, 1) := by decide +kernel
theorem dX8_odds_85 : decode cX8_odds 85 = .ok (.isub, 1) := by decide +kernel
theorem dX8_odds_86 : decode cX8_odds 86 = .ok (.i2l, 1) := by decide +kernel
theorem dX8_odds_87 : decode cX8_odds 87 = .ok (.lmul, 1) := by decide +kernel
theorem dX8_odds_88 : decode cX8_odds 88 = .ok (.lstore_n 3, 1) := by decide +kernel
theorem dX8_odds_89 : decode cX8_odds 89 = .ok (.lload 5, 2) := by decide +kernel
theorem dX8_odds_91 : decode cX8_odds 91 = .ok (.ldc2_w 250, 3) := by decide +kernel
theorem dX8_odds_94 : decode cX8_odds 94 = .ok (.lmul, 1) := by decide +kernel
theorem dX8_odds_95 : decode cX8_odds 95 = .ok (.lstore 5, 2) := by decide +kernel
theorem dX8_odds_97 : decode cX8_odds 97 = .ok (.iinc 7 1, 3) := by decide +kernel
theorem dX8_odds_100 : decode cX8_odds 100 = .ok (.goto (-69), 3) := by decide +kernel
theorem dX8_odds_103 : decode cX8_odds 103 = .ok (.lload_n 3, 1) := by decide +kernel
theorem dX8_odds_104 : decode cX8_odds 104 = .ok (.lload 5, 2) := by decide +kernel
theorem dX8_odds_106 : decode cX8_odds 106 = .ok (.invokestatic 252, 3) := by decide +kernel
theorem dX8_odds_109 : decode cX8_odds 109 = .ok (.lstore 7, 2) := by decide +kernel
theorem dX8_odds_111 : decode cX8_odds 111 = .ok (.lload 7, 2) := by decide +kernel
theorem dX8_odds_113 : decode cX8_odds 113 = .ok (.lconst 0, 1) := by decide +kernel
theorem dX8_odds_114 : decode cX8_odds 114 = .ok (.lcmp, 1) := by decide +kernel
theorem dX8_odds_115 : decode cX8_odds 115 = .ok (.ifCond .ne 7, 3) := by decide +kernel
theorem dX8_odds_118 : decode cX8_odds 118 = .ok (.ldc2_w 248, 3) := by decide +kernel
theorem dX8_odds_121 : decode cX8_odds 121 = .ok (.lreturn, 1) := by decide +kernel
theorem dX8_odds_122 : decode cX8_odds 122 = .ok (.iload_n 2, 1) := by decide +kernel
theorem dX8_odds_123 : decode cX8_odds 123 = .ok (.ifCond .ne 10, 3) := by decide +kernel
theorem dX8_odds_126 : decode cX8_odds 126 = .ok (.lload_n 3, 1) := by decide +kernel
theorem dX8_odds_127 : decode cX8_odds 127 = .ok (.lload 7, 2) := by decide +kernel
theorem dX8_odds_129 : decode cX8_odds 129 = .ok (.ldiv, 1) := by decide +kernel
theorem dX8_odds_130 : decode cX8_odds 130 = .ok (.goto 8, 3) := by decide +kernel
theorem dX8_odds_133 : decode cX8_odds 133 = .ok (.lload 5, 2) := by decide +kernel
theorem dX8_odds_135 : decode cX8_odds 135 = .ok (.lload 7, 2) := by decide +kernel
theorem dX8_odds_137 : decode cX8_odds 137 = .ok (.ldiv, 1) := by decide +kernel
theorem dX8_odds_138 : decode cX8_odds 138 = .ok (.lreturn, 1) := by decide +kernel
set_option maxRecDepth 20000 in
theorem ggX8_allKnow_X2_hearers : GoodIn wsX8_allKnow wsX2_hearers := goodIn_r _ [7, 8, 9, 25, 26, 27, 28, 29, 30, 31, 32, 33, 34] (by decide +kernel) (by decide +kernel)
set_option maxRecDepth 20000 in
theorem gX8_allKnow_X2_hearers : GoodIn wsX8_allKnow (wsV RX8 239 RX2 yX2_hearers wsX2_hearers) := goodIn_app (goodIn_of _ (by decide +kernel)) ggX8_allKnow_X2_hearers
set_option maxRecDepth 20000 in
theorem ggX8_allKnow_X2_everybody : GoodIn wsX8_allKnow wsX2_everybody := goodIn_r _ [13, 8, 25, 26, 27, 28, 29, 30, 31, 32, 33, 34] (by decide +kernel) (by decide +kernel)
set_option maxRecDepth 20000 in
theorem gX8_allKnow_X2_everybody : GoodIn wsX8_allKnow (wsV RX8 147 RX2 yX2_everybody wsX2_everybody) := goodIn_app (goodIn_of _ (by decide +kernel)) ggX8_allKnow_X2_everybody
theorem dX8_allKnow_0 : decode cX8_allKnow 0 = .ok (.iconst 1, 1) := by decide +kernel
theorem dX8_allKnow_1 : decode cX8_allKnow 1 = .ok (.iload_n 1, 1) := by decide +kernel
theorem dX8_allKnow_2 : decode cX8_allKnow 2 = .ok (.ishl, 1) := by decide +kernel
theorem dX8_allKnow_3 : decode cX8_allKnow 3 = .ok (.istore_n 3, 1) := by decide +kernel
theorem dX8_allKnow_4 : decode cX8_allKnow 4 = .ok (.iconst 0, 1) := by decide +kernel
theorem dX8_allKnow_5 : decode cX8_allKnow 5 = .ok (.istore 4, 2) := by decide +kernel
theorem dX8_allKnow_7 : decode cX8_allKnow 7 = .ok (.iload 4, 2) := by decide +kernel
theorem dX8_allKnow_9 : decode cX8_allKnow 9 = .ok (.aload_n 0, 1) := by decide +kernel
theorem dX8_allKnow_10 : decode cX8_allKnow 10 = .ok (.getfield 19, 3) := by decide +kernel
theorem dX8_allKnow_13 : decode cX8_allKnow 13 = .ok (.getfield 161, 3) := by decide +kernel
theorem dX8_allKnow_16 : decode cX8_allKnow 16 = .ok (.if_icmp .ge 22, 3) := by decide +kernel
theorem dX8_allKnow_19 : decode cX8_allKnow 19 = .ok (.iload_n 3, 1) := by decide +kernel
theorem dX8_allKnow_20 : decode cX8_allKnow 20 = .ok (.aload_n 0, 1) := by decide +kernel
theorem dX8_allKnow_21 : decode cX8_allKnow 21 = .ok (.getfield 19, 3) := by decide +kernel
theorem dX8_allKnow_24 : decode cX8_allKnow 24 = .ok (.iload_n 3, 1) := by decide +kernel
theorem dX8_allKnow_25 : decode cX8_allKnow 25 = .ok (.iload_n 2, 1) := by decide +kernel
theorem dX8_allKnow_26 : decode cX8_allKnow 26 = .ok (.iand, 1) := by decide +kernel
theorem dX8_allKnow_27 : decode cX8_allKnow 27 = .ok (.invokevirtual 239, 3) := by decide +kernel
theorem dX8_allKnow_30 : decode cX8_allKnow 30 = .ok (.ior, 1) := by decide +kernel
theorem dX8_allKnow_31 : decode cX8_allKnow 31 = .ok (.istore_n 3, 1) := by decide +kernel
theorem dX8_allKnow_32 : decode cX8_allKnow 32 = .ok (.iinc 4 1, 3) := by decide +kernel
theorem dX8_allKnow_35 : decode cX8_allKnow 35 = .ok (.goto (-28), 3) := by decide +kernel
theorem dX8_allKnow_38 : decode cX8_allKnow 38 = .ok (.iload_n 3, 1) := by decide +kernel
theorem dX8_allKnow_39 : decode cX8_allKnow 39 = .ok (.aload_n 0, 1) := by decide +kernel
theorem dX8_allKnow_40 : decode cX8_allKnow 40 = .ok (.getfield 19, 3) := by decide +kernel
theorem dX8_allKnow_43 : decode cX8_allKnow 43 = .ok (.invokevirtual 147, 3) := by decide +kernel
theorem dX8_allKnow_46 : decode cX8_allKnow 46 = .ok (.if_icmp .ne 7, 3) := by decide +kernel
theorem dX8_allKnow_49 : decode cX8_allKnow 49 = .ok (.iconst 1, 1) := by decide +kernel
theorem dX8_allKnow_50 : decode cX8_allKnow 50 = .ok (.goto 4, 3) := by decide +kernel
theorem dX8_allKnow_53 : decode cX8_allKnow 53 = .ok (.iconst 0, 1) := by decide +kernel
theorem dX8_allKnow_54 : decode cX8_allKnow 54 = .ok (.ireturn, 1) := by decide +kernel
theorem dX8_commonDivisor_0 : decode cX8_commonDivisor 0 = .ok (.iconst 0, 1) := by decide +kernel
theorem dX8_commonDivisor_1 : decode cX8_commonDivisor 1 = .ok (.istore 4, 2) := by decide +kernel
theorem dX8_commonDivisor_3 : decode cX8_commonDivisor 3 = .ok (.iload 4, 2) := by decide +kernel
theorem dX8_commonDivisor_5 : decode cX8_commonDivisor 5 = .ok (.bipush 100, 2) := by decide +kernel
theorem dX8_commonDivisor_7 : decode cX8_commonDivisor 7 = .ok (.if_icmp .ge 25, 3) := by decide +kernel
theorem dX8_commonDivisor_10 : decode cX8_commonDivisor 10 = .ok (.lload_n 2, 1) := by decide +kernel
theorem dX8_commonDivisor_11 : decode cX8_commonDivisor 11 = .ok (.lconst 0, 1) := by decide +kernel
theorem dX8_commonDivisor_12 : decode cX8_commonDivisor 12 = .ok (.lcmp, 1) := by decide +kernel
theorem dX8_commonDivisor_13 : decode cX8_commonDivisor 13 = .ok (.ifCond .eq 19, 3) := by decide +kernel
theorem dX8_commonDivisor_16 : decode cX8_commonDivisor 16 = .ok (.lload_n 0, 1) := by decide +kernel
theorem dX8_commonDivisor_17 : decode cX8_commonDivisor 17 = .ok (.lload_n 2, 1) := by decide +kernel
theorem dX8_commonDivisor_18 : decode cX8_commonDivisor 18 = .ok (.lrem, 1) := by decide +kernel
theorem dX8_commonDivisor_19 : decode cX8_commonDivisor 19 = .ok (.lstore 5, 2) := by decide +kernel
theorem dX8_commonDivisor_21 : decode cX8_commonDivisor 21 = .ok (.lload_n 2, 1) := by decide +kernel
theorem dX8_commonDivisor_22 : decode cX8_commonDivisor 22 = .ok (.lstore_n 0, 1) := by decide +kernel
theorem dX8_commonDivisor_23 : decode cX8_commonDivisor 23 = .ok (.lload 5, 2) := by decide +kernel
theorem dX8_commonDivisor_25 : decode cX8_commonDivisor 25 = .ok (.lstore_n 2, 1) := by decide +kernel
theorem dX8_commonDivisor_26 : decode cX8_commonDivisor 26 = .ok (.iinc 4 1, 3) := by decide +kernel
theorem dX8_commonDivisor_29 : decode cX8_commonDivisor 29 = .ok (.goto (-26), 3) := by decide +kernel
theorem dX8_commonDivisor_32 : decode cX8_commonDivisor 32 = .ok (.lload_n 0, 1) := by decide +kernel
theorem dX8_commonDivisor_33 : decode cX8_commonDivisor 33 = .ok (.lreturn, 1) := by decide +kernel
set_option maxRecDepth 20000 in
theorem ggX8_book_X2_hasTenant : GoodIn wsX8_book wsX2_hasTenant := goodIn_r _ [10, 11, 26, 27, 28, 29, 30, 31, 32, 33, 34, 35] (by decide +kernel) (by decide +kernel)
set_option maxRecDepth 20000 in
theorem gX8_book_X2_hasTenant : GoodIn wsX8_book (wsV RX8 108 RX2 yX2_hasTenant wsX2_hasTenant) := goodIn_app (goodIn_of _ (by decide +kernel)) ggX8_book_X2_hasTenant
theorem dX8_book_0 : decode cX8_book 0 = .ok (.aload_n 0, 1) := by decide +kernel
theorem dX8_book_1 : decode cX8_book 1 = .ok (.getfield 19, 3) := by decide +kernel
theorem dX8_book_4 : decode cX8_book 4 = .ok (.iload_n 1, 1) := by decide +kernel
theorem dX8_book_5 : decode cX8_book 5 = .ok (.invokevirtual 108, 3) := by decide +kernel
theorem dX8_book_8 : decode cX8_book 8 = .ok (.ifCond .eq 13, 3) := by decide +kernel
theorem dX8_book_11 : decode cX8_book 11 = .ok (.iload_n 2, 1) := by decide +kernel
theorem dX8_book_12 : decode cX8_book 12 = .ok (.ifCond .lt 9, 3) := by decide +kernel
theorem dX8_book_15 : decode cX8_book 15 = .ok (.iload_n 2, 1) := by decide +kernel
theorem dX8_book_16 : decode cX8_book 16 = .ok (.bipush 24, 2) := by decide +kernel
theorem dX8_book_18 : decode cX8_book 18 = .ok (.if_icmp .le 5, 3) := by decide +kernel
theorem dX8_book_21 : decode cX8_book 21 = .ok (.iconst (-1), 1) := by decide +kernel
theorem dX8_book_22 : decode cX8_book 22 = .ok (.ireturn, 1) := by decide +kernel
theorem dX8_book_23 : decode cX8_book 23 = .ok (.aload_n 0, 1) := by decide +kernel
theorem dX8_book_24 : decode cX8_book 24 = .ok (.getfield 49, 3) := by decide +kernel
theorem dX8_book_27 : decode cX8_book 27 = .ok (.getfield 89, 3) := by decide +kernel
theorem dX8_book_30 : decode cX8_book 30 = .ok (.bipush 6, 2) := by decide +kernel
theorem dX8_book_32 : decode cX8_book 32 = .ok (.if_icmp .lt 6, 3) := by decide +kernel
theorem dX8_book_35 : decode cX8_book 35 = .ok (.bipush (-3), 2) := by decide +kernel
theorem dX8_book_37 : decode cX8_book 37 = .ok (.ireturn, 1) := by decide +kernel
theorem dX8_book_38 : decode cX8_book 38 = .ok (.aload_n 0, 1) := by decide +kernel
theorem dX8_book_39 : decode cX8_book 39 = .ok (.getfield 49, 3) := by decide +kernel
theorem dX8_book_42 : decode cX8_book 42 = .ok (.getfield 256, 3) := by decide +kernel
theorem dX8_book_45 : decode cX8_book 45 = .ok (.aload_n 0, 1) := by decide +kernel
theorem dX8_book_46 : decode cX8_book 46 = .ok (.getfield 49, 3) := by decide +kernel
theorem dX8_book_49 : decode cX8_book 49 = .ok (.getfield 89, 3) := by decide +kernel
theorem dX8_book_52 : decode cX8_book 52 = .ok (.iload_n 1, 1) := by decide +kernel
theorem dX8_book_53 : decode cX8_book 53 = .ok (.iastore, 1) := by decide +kernel
theorem dX8_book_54 : decode cX8_book 54 = .ok (.aload_n 0, 1) := by decide +kernel
theorem dX8_book_55 : decode cX8_book 55 = .ok (.getfield 49, 3) := by decide +kernel
theorem dX8_book_58 : decode cX8_book 58 = .ok (.getfield 259, 3) := by decide +kernel
theorem dX8_book_61 : decode cX8_book 61 = .ok (.aload_n 0, 1) := by decide +kernel
theorem dX8_book_62 : decode cX8_book 62 = .ok (.getfield 49, 3) := by decide +kernel
theorem dX8_book_65 : decode cX8_book 65 = .ok (.getfield 89, 3) := by decide +kernel
theorem dX8_book_68 : decode cX8_book 68 = .ok (.iload_n 2, 1) := by decide +kernel
theorem dX8_book_69 : decode cX8_book 69 = .ok (.iastore, 1) := by decide +kernel
theorem dX8_book_70 : decode cX8_book 70 = .ok (.aload_n 0, 1) := by decide +kernel
theorem dX8_book_71 : decode cX8_book 71 = .ok (.getfield 49, 3) := by decide +kernel
theorem dX8_book_74 : decode cX8_book 74 = .ok (.dup, 1) := by decide +kernel
theorem dX8_book_75 : decode cX8_book 75 = .ok (.getfield 89, 3) := by decide +kernel
theorem dX8_book_78 : decode cX8_book 78 = .ok (.iconst 1, 1) := by decide +kernel
theorem dX8_book_79 : decode cX8_book 79 = .ok (.iadd, 1) := by decide +kernel
theorem dX8_book_80 : decode cX8_book 80 = .ok (.putfield 89, 3) := by decide +kernel
theorem dX8_book_83 : decode cX8_book 83 = .ok (.aload_n 0, 1) := by decide +kernel
theorem dX8_book_84 : decode cX8_book 84 = .ok (.getfield 49, 3) := by decide +kernel
theorem dX8_book_87 : decode cX8_book 87 = .ok (.getfield 89, 3) := by decide +kernel
theorem dX8_book_90 : decode cX8_book 90 = .ok (.ireturn, 1) := by decide +kernel
theorem dX8_burn_0 : decode cX8_burn 0 = .ok (.aload_n 0, 1) := by decide +kernel
theorem dX8_burn_1 : decode cX8_burn 1 = .ok (.getfield 49, 3) := by decide +kernel
theorem dX8_burn_4 : decode cX8_burn 4 = .ok (.getfield 89, 3) := by decide +kernel
theorem dX8_burn_7 : decode cX8_burn 7 = .ok (.istore_n 1, 1) := by decide +kernel
theorem dX8_burn_8 : decode cX8_burn 8 = .ok (.aload_n 0, 1) := by decide +kernel
theorem dX8_burn_9 : decode cX8_burn 9 = .ok (.getfield 49, 3) := by decide +kernel
theorem dX8_burn_12 : decode cX8_burn 12 = .ok (.iconst 0, 1) := by decide +kernel
theorem dX8_burn_13 : decode cX8_burn 13 = .ok (.putfield 89, 3) := by decide +kernel
theorem dX8_burn_16 : decode cX8_burn 16 = .ok (.iload_n 1, 1) := by decide +kernel
theorem dX8_burn_17 : decode cX8_burn 17 = .ok (.ireturn, 1) := by decide +kernel
set_option maxRecDepth 20000 in
theorem ggX8_fits_X1_solve : GoodIn wsX8_fits wsX1_solve := goodIn_r _ [10, 11, 12, 13, 14, 15, 16, 17, 18, 19, 20, 21, 22, 23, 24, 25, 26, 27, 28, 29, 30, 31, 32, 33, 34, 35, 36, 37, 38, 39, 40, 41, 42, 43, 44, 45, 46, 47, 48, 49, 50, 51, 52, 53, 54, 55, 9, 56, 57, 58, 59, 60, 84, 85, 86, 87, 88, 89, 90, 91, 92, 93, 94, 95, 96, 97, 98, 99, 100] (by decide +kernel) (by decide +kernel)
set_option maxRecDepth 20000 in
theorem gX8_fits_X1_solve : GoodIn wsX8_fits (wsV RX8 262 RX1 yX1_solve wsX1_solve) := goodIn_app (goodIn_of _ (by decide +kernel)) ggX8_fits_X1_solve
set_option maxRecDepth 20000 in
theorem ggX8_fits_X1_firstRoom : GoodIn wsX8_fits wsX1_firstRoom := goodIn_r _ [64, 65, 66, 67, 9, 68, 12, 69, 70, 71, 72, 14, 15, 94, 95, 96, 97] (by decide +kernel) (by decide +kernel)
set_option maxRecDepth 20000 in
theorem gX8_fits_X1_firstRoom : GoodIn wsX8_fits (wsV RX8 268 RX1 yX1_firstRoom wsX1_firstRoom) := goodIn_app (goodIn_of _ (by decide +kernel)) ggX8_fits_X1_firstRoom
theorem dX8_fits_0 : decode cX8_fits 0 = .ok (.iload_n 1, 1) := by decide +kernel
theorem dX8_fits_1 : decode cX8_fits 1 = .ok (.iconst (-1), 1) := by decide +kernel
theorem dX8_fits_2 : decode cX8_fits 2 = .ok (.if_icmp .lt 14, 3) := by decide +kernel
theorem dX8_fits_5 : decode cX8_fits 5 = .ok (.iload_n 1, 1) := by decide +kernel
theorem dX8_fits_6 : decode cX8_fits 6 = .ok (.aload_n 0, 1) := by decide +kernel
theorem dX8_fits_7 : decode cX8_fits 7 = .ok (.getfield 19, 3) := by decide +kernel
theorem dX8_fits_10 : decode cX8_fits 10 = .ok (.getfield 161, 3) := by decide +kernel
theorem dX8_fits_13 : decode cX8_fits 13 = .ok (.if_icmp .lt 5, 3) := by decide +kernel
theorem dX8_fits_16 : decode cX8_fits 16 = .ok (.iconst (-1), 1) := by decide +kernel
theorem dX8_fits_17 : decode cX8_fits 17 = .ok (.ireturn, 1) := by decide +kernel
theorem dX8_fits_18 : decode cX8_fits 18 = .ok (.aload_n 0, 1) := by decide +kernel
theorem dX8_fits_19 : decode cX8_fits 19 = .ok (.getfield 63, 3) := by decide +kernel
theorem dX8_fits_22 : decode cX8_fits 22 = .ok (.aload_n 0, 1) := by decide +kernel
theorem dX8_fits_23 : decode cX8_fits 23 = .ok (.getfield 19, 3) := by decide +kernel
theorem dX8_fits_26 : decode cX8_fits 26 = .ok (.aload_n 0, 1) := by decide +kernel
theorem dX8_fits_27 : decode cX8_fits 27 = .ok (.getfield 49, 3) := by decide +kernel
theorem dX8_fits_30 : decode cX8_fits 30 = .ok (.invokevirtual 262, 3) := by decide +kernel
theorem dX8_fits_33 : decode cX8_fits 33 = .ok (.iload_n 1, 1) := by decide +kernel
theorem dX8_fits_34 : decode cX8_fits 34 = .ok (.iconst (-1), 1) := by decide +kernel
theorem dX8_fits_35 : decode cX8_fits 35 = .ok (.if_icmp .ne 15, 3) := by decide +kernel
theorem dX8_fits_38 : decode cX8_fits 38 = .ok (.aload_n 0, 1) := by decide +kernel
theorem dX8_fits_39 : decode cX8_fits 39 = .ok (.getfield 63, 3) := by decide +kernel
theorem dX8_fits_42 : decode cX8_fits 42 = .ok (.getfield 265, 3) := by decide +kernel
theorem dX8_fits_45 : decode cX8_fits 45 = .ok (.iconst 0, 1) := by decide +kernel
theorem dX8_fits_46 : decode cX8_fits 46 = .ok (.iaload, 1) := by decide +kernel
theorem dX8_fits_47 : decode cX8_fits 47 = .ok (.goto 11, 3) := by decide +kernel
theorem dX8_fits_50 : decode cX8_fits 50 = .ok (.aload_n 0, 1) := by decide +kernel
theorem dX8_fits_51 : decode cX8_fits 51 = .ok (.getfield 63, 3) := by decide +kernel
theorem dX8_fits_54 : decode cX8_fits 54 = .ok (.iload_n 1, 1) := by decide +kernel
theorem dX8_fits_55 : decode cX8_fits 55 = .ok (.invokevirtual 268, 3) := by decide +kernel
theorem dX8_fits_58 : decode cX8_fits 58 = .ok (.ireturn, 1) := by decide +kernel
set_option maxRecDepth 20000 in
theorem ggX8_may_X2_hasTenant : GoodIn wsX8_may wsX2_hasTenant := goodIn_r _ [8, 9, 83, 84, 85, 86, 87, 88, 89, 90, 91, 92] (by decide +kernel) (by decide +kernel)
set_option maxRecDepth 20000 in
theorem gX8_may_X2_hasTenant : GoodIn wsX8_may (wsV RX8 108 RX2 yX2_hasTenant wsX2_hasTenant) := goodIn_app (goodIn_of _ (by decide +kernel)) ggX8_may_X2_hasTenant
set_option maxRecDepth 20000 in
theorem ggX8_may_X1_solve : GoodIn wsX8_may wsX1_solve := goodIn_r _ [14, 15, 16, 17, 18, 19, 20, 21, 22, 23, 24, 25, 26, 27, 28, 29, 30, 31, 32, 33, 34, 7, 35, 36, 37, 38, 39, 40, 41, 42, 43, 44, 45, 46, 47, 48, 49, 50, 51, 52, 53, 54, 55, 56, 57, 58, 13, 59, 60, 61, 62, 63, 83, 84, 85, 86, 87, 88, 89, 90, 91, 92, 93, 94, 95, 96, 97, 98, 99] (by decide +kernel) (by decide +kernel)
set_option maxRecDepth 20000 in
theorem gX8_may_X1_solve : GoodIn wsX8_may (wsV RX8 262 RX1 yX1_solve wsX1_solve) := goodIn_app (goodIn_of _ (by decide +kernel)) ggX8_may_X1_solve
set_option maxRecDepth 20000 in
theorem ggX8_may_X1_someRooms : GoodIn wsX8_may wsX1_someRooms := goodIn_r _ [67, 16, 20, 49, 50, 51, 52, 53, 54, 55, 68, 69, 70, 13, 71, 18, 19, 93, 94, 95, 96] (by decide +kernel) (by decide +kernel)
set_option maxRecDepth 20000 in
theorem gX8_may_X1_someRooms : GoodIn wsX8_may (wsV RX8 271 RX1 yX1_someRooms wsX1_someRooms) := goodIn_app (goodIn_of _ (by decide +kernel)) ggX8_may_X1_someRooms
theorem dX8_may_0 : decode cX8_may 0 = .ok (.aload_n 0, 1) := by decide +kernel
theorem dX8_may_1 : decode cX8_may 1 = .ok (.getfield 19, 3) := by decide +kernel
theorem dX8_may_4 : decode cX8_may 4 = .ok (.iload_n 1, 1) := by decide +kernel
theorem dX8_may_5 : decode cX8_may 5 = .ok (.invokevirtual 108, 3) := by decide +kernel
theorem dX8_may_8 : decode cX8_may 8 = .ok (.ifCond .ne 5, 3) := by decide +kernel
theorem dX8_may_11 : decode cX8_may 11 = .ok (.iconst (-1), 1) := by decide +kernel
theorem dX8_may_12 : decode cX8_may 12 = .ok (.ireturn, 1) := by decide +kernel
theorem dX8_may_13 : decode cX8_may 13 = .ok (.aload_n 0, 1) := by decide +kernel
theorem dX8_may_14 : decode cX8_may 14 = .ok (.getfield 63, 3) := by decide +kernel
theorem dX8_may_17 : decode cX8_may 17 = .ok (.aload_n 0, 1) := by decide +kernel
theorem dX8_may_18 : decode cX8_may 18 = .ok (.getfield 19, 3) := by decide +kernel
theorem dX8_may_21 : decode cX8_may 21 = .ok (.aload_n 0, 1) := by decide +kernel
theorem dX8_may_22 : decode cX8_may 22 = .ok (.getfield 49, 3) := by decide +kernel
theorem dX8_may_25 : decode cX8_may 25 = .ok (.invokevirtual 262, 3) := by decide +kernel
theorem dX8_may_28 : decode cX8_may 28 = .ok (.aload_n 0, 1) := by decide +kernel
theorem dX8_may_29 : decode cX8_may 29 = .ok (.getfield 63, 3) := by decide +kernel
theorem dX8_may_32 : decode cX8_may 32 = .ok (.iload_n 1, 1) := by decide +kernel
theorem dX8_may_33 : decode cX8_may 33 = .ok (.invokevirtual 271, 3) := by decide +kernel
theorem dX8_may_36 : decode cX8_may 36 = .ok (.ireturn, 1) := by decide +kernel
set_option maxRecDepth 20000 in
theorem ggX8_mark_X2_hasTenant : GoodIn wsX8_mark wsX2_hasTenant := goodIn_r _ [7, 8, 57, 58, 59, 60, 61, 62, 63, 64, 65, 66] (by decide +kernel) (by decide +kernel)
set_option maxRecDepth 20000 in
theorem gX8_mark_X2_hasTenant : GoodIn wsX8_mark (wsV RX8 108 RX2 yX2_hasTenant wsX2_hasTenant) := goodIn_app (goodIn_of _ (by decide +kernel)) ggX8_mark_X2_hasTenant
set_option maxRecDepth 20000 in
theorem ggX8_mark_X8_markTenant : GoodIn wsX8_mark wsX8_markTenant := goodIn_r _ [13, 14, 15, 16, 46, 47, 48, 49, 50, 51, 52, 53, 54, 55, 56, 67, 68, 69, 70, 71] (by decide +kernel) (by decide +kernel)
set_option maxRecDepth 20000 in
theorem gX8_mark_X8_markTenant : GoodIn wsX8_mark (wsV RX8 274 RX8 yX8_markTenant wsX8_markTenant) := goodIn_app (goodIn_of _ (by decide +kernel)) ggX8_mark_X8_markTenant
set_option maxRecDepth 20000 in
theorem ggX8_mark_X8_markTalker : GoodIn wsX8_mark wsX8_markTalker := goodIn_r _ [20, 14, 21, 1, 22, 9, 10, 11, 12, 13, 15, 16, 46, 47, 48, 49, 50, 51, 52, 53, 54, 55, 56, 57, 58, 59, 60, 61, 62, 63, 64, 65, 66, 67, 68, 69, 70, 71] (by decide +kernel) (by decide +kernel)
set_option maxRecDepth 20000 in
theorem gX8_mark_X8_markTalker : GoodIn wsX8_mark (wsV RX8 277 RX8 yX8_markTalker wsX8_markTalker) := goodIn_app (goodIn_of _ (by decide +kernel)) ggX8_mark_X8_markTalker
set_option maxRecDepth 20000 in
theorem ggX8_mark_X8_markMute : GoodIn wsX8_mark wsX8_markMute := goodIn_r _ [26, 14, 27, 1, 28, 9, 10, 11, 12, 13, 15, 16, 46, 47, 48, 49, 50, 51, 52, 53, 54, 55, 56, 57, 58, 59, 60, 61, 62, 63, 64, 65, 66, 67, 68, 69, 70, 71] (by decide +kernel) (by decide +kernel)
set_option maxRecDepth 20000 in
theorem gX8_mark_X8_markMute : GoodIn wsX8_mark (wsV RX8 280 RX8 yX8_markMute wsX8_markMute) := goodIn_app (goodIn_of _ (by decide +kernel)) ggX8_mark_X8_markMute
set_option maxRecDepth 20000 in
theorem ggX8_mark_X8_markWhistler : GoodIn wsX8_mark wsX8_markWhistler := goodIn_r _ [32, 14, 33, 17, 18, 19, 12, 20, 21, 1, 22, 9, 10, 11, 13, 15, 16, 46, 47, 48, 49, 50, 51, 52, 53, 54, 55, 56, 57, 58, 59, 60, 61, 62, 63, 64, 65, 66, 67, 68, 69, 70, 71] (by decide +kernel) (by decide +kernel)
set_option maxRecDepth 20000 in
theorem gX8_mark_X8_markWhistler : GoodIn wsX8_mark (wsV RX8 283 RX8 yX8_markWhistler wsX8_markWhistler) := goodIn_app (goodIn_of _ (by decide +kernel)) ggX8_mark_X8_markWhistler
set_option maxRecDepth 20000 in
theorem ggX8_mark_X8_markHired : GoodIn wsX8_mark wsX8_markHired := goodIn_r _ [37, 14, 38, 1, 39, 23, 24, 25, 12, 26, 27, 28, 9, 10, 11, 13, 15, 16, 46, 47, 48, 49, 50, 51, 52, 53, 54, 55, 56, 57, 58, 59, 60, 61, 62, 63, 64, 65, 66, 67, 68, 69, 70, 71] (by decide +kernel) (by decide +kernel)
set_option maxRecDepth 20000 in
theorem gX8_mark_X8_markHired : GoodIn wsX8_mark (wsV RX8 286 RX8 yX8_markHired wsX8_markHired) := goodIn_app (goodIn_of _ (by decide +kernel)) ggX8_mark_X8_markHired
set_option maxRecDepth 20000 in
theorem ggX8_mark_X8_markLawyer : GoodIn wsX8_mark wsX8_markLawyer := goodIn_r _ [43, 14, 44, 15, 45, 9, 10, 11, 12, 13, 16, 46, 47, 48, 49, 50, 51, 52, 53, 54, 55, 56, 67, 68, 69, 70, 71] (by decide +kernel) (by decide +kernel)
set_option maxRecDepth 20000 in
theorem gX8_mark_X8_markLawyer : GoodIn wsX8_mark (wsV RX8 289 RX8 yX8_markLawyer wsX8_markLawyer) := goodIn_app (goodIn_of _ (by decide +kernel)) ggX8_mark_X8_markLawyer
theorem dX8_mark_0 : decode cX8_mark 0 = .ok (.aload_n 0, 1) := by decide +kernel
theorem dX8_mark_1 : decode cX8_mark 1 = .ok (.getfield 19, 3) := by decide +kernel
theorem dX8_mark_4 : decode cX8_mark 4 = .ok (.iload_n 2, 1) := by decide +kernel
theorem dX8_mark_5 : decode cX8_mark 5 = .ok (.invokevirtual 108, 3) := by decide +kernel
theorem dX8_mark_8 : decode cX8_mark 8 = .ok (.ifCond .ne 6, 3) := by decide +kernel
theorem dX8_mark_11 : decode cX8_mark 11 = .ok (.ldc 219, 2) := by decide +kernel
theorem dX8_mark_13 : decode cX8_mark 13 = .ok (.ireturn, 1) := by decide +kernel
theorem dX8_mark_14 : decode cX8_mark 14 = .ok (.iload_n 1, 1) := by decide +kernel
theorem dX8_mark_15 : decode cX8_mark 15 = .ok (.tableswitch 73 0 5 #[37, 43, 49, 55, 61, 67], 37) := by decide +kernel
theorem dX8_mark_52 : decode cX8_mark 52 = .ok (.aload_n 0, 1) := by decide +kernel
theorem dX8_mark_53 : decode cX8_mark 53 = .ok (.iload_n 2, 1) := by decide +kernel
theorem dX8_mark_54 : decode cX8_mark 54 = .ok (.invokevirtual 274, 3) := by decide +kernel
theorem dX8_mark_57 : decode cX8_mark 57 = .ok (.ireturn, 1) := by decide +kernel
theorem dX8_mark_58 : decode cX8_mark 58 = .ok (.aload_n 0, 1) := by decide +kernel
theorem dX8_mark_59 : decode cX8_mark 59 = .ok (.iload_n 2, 1) := by decide +kernel
theorem dX8_mark_60 : decode cX8_mark 60 = .ok (.invokevirtual 277, 3) := by decide +kernel
theorem dX8_mark_63 : decode cX8_mark 63 = .ok (.ireturn, 1) := by decide +kernel
theorem dX8_mark_64 : decode cX8_mark 64 = .ok (.aload_n 0, 1) := by decide +kernel
theorem dX8_mark_65 : decode cX8_mark 65 = .ok (.iload_n 2, 1) := by decide +kernel
theorem dX8_mark_66 : decode cX8_mark 66 = .ok (.invokevirtual 280, 3) := by decide +kernel
theorem dX8_mark_69 : decode cX8_mark 69 = .ok (.ireturn, 1) := by decide +kernel
theorem dX8_mark_70 : decode cX8_mark 70 = .ok (.aload_n 0, 1) := by decide +kernel
theorem dX8_mark_71 : decode cX8_mark 71 = .ok (.iload_n 2, 1) := by decide +kernel
theorem dX8_mark_72 : decode cX8_mark 72 = .ok (.invokevirtual 283, 3) := by decide +kernel
theorem dX8_mark_75 : decode cX8_mark 75 = .ok (.ireturn, 1) := by decide +kernel
theorem dX8_mark_76 : decode cX8_mark 76 = .ok (.aload_n 0, 1) := by decide +kernel
theorem dX8_mark_77 : decode cX8_mark 77 = .ok (.iload_n 2, 1) := by decide +kernel
theorem dX8_mark_78 : decode cX8_mark 78 = .ok (.invokevirtual 286, 3) := by decide +kernel
theorem dX8_mark_81 : decode cX8_mark 81 = .ok (.ireturn, 1) := by decide +kernel
theorem dX8_mark_82 : decode cX8_mark 82 = .ok (.aload_n 0, 1) := by decide +kernel
theorem dX8_mark_83 : decode cX8_mark 83 = .ok (.iload_n 2, 1) := by decide +kernel
theorem dX8_mark_84 : decode cX8_mark 84 = .ok (.invokevirtual 289, 3) := by decide +kernel
theorem dX8_mark_87 : decode cX8_mark 87 = .ok (.ireturn, 1) := by decide +kernel
theorem dX8_mark_88 : decode cX8_mark 88 = .ok (.ldc 219, 2) := by decide +kernel
theorem dX8_mark_90 : decode cX8_mark 90 = .ok (.ireturn, 1) := by decide +kernel
set_option maxRecDepth 20000 in
theorem ggX8_keep_X5_copyFrom : GoodIn wsX8_keep wsX5_copyFrom := goodIn_r _ [12, 13, 14, 15, 16, 17, 18, 19, 20, 21, 44, 45, 46, 47, 48] (by decide +kernel) (by decide +kernel)
set_option maxRecDepth 20000 in
theorem gX8_keep_X5_copyFrom : GoodIn wsX8_keep (wsV RX8 293 RX5 yX5_copyFrom wsX5_copyFrom) := goodIn_app (goodIn_of _ (by decide +kernel)) ggX8_keep_X5_copyFrom
set_option maxRecDepth 20000 in
theorem ggX8_keep_X6_copyFrom : GoodIn wsX8_keep wsX6_copyFrom := goodIn_r _ [26, 27, 28, 29, 9, 10, 11, 12, 13, 14, 15, 16, 17, 18, 19, 20, 21, 49, 50, 44, 45, 46, 47, 48] (by decide +kernel) (by decide +kernel)
set_option maxRecDepth 20000 in
theorem gX8_keep_X6_copyFrom : GoodIn wsX8_keep (wsV RX8 297 RX6 yX6_copyFrom wsX6_copyFrom) := goodIn_app (goodIn_of _ (by decide +kernel)) ggX8_keep_X6_copyFrom
theorem dX8_keep_0 : decode cX8_keep 0 = .ok (.iload_n 1, 1) := by decide +kernel
theorem dX8_keep_1 : decode cX8_keep 1 = .ok (.ifCond .lt 8, 3) := by decide +kernel
theorem dX8_keep_4 : decode cX8_keep 4 = .ok (.iload_n 1, 1) := by decide +kernel
theorem dX8_keep_5 : decode cX8_keep 5 = .ok (.iconst 2, 1) := by decide +kernel
theorem dX8_keep_6 : decode cX8_keep 6 = .ok (.if_icmp .lt 5, 3) := by decide +kernel
theorem dX8_keep_9 : decode cX8_keep 9 = .ok (.iconst (-1), 1) := by decide +kernel
theorem dX8_keep_10 : decode cX8_keep 10 = .ok (.ireturn, 1) := by decide +kernel
theorem dX8_keep_11 : decode cX8_keep 11 = .ok (.aload_n 0, 1) := by decide +kernel
theorem dX8_keep_12 : decode cX8_keep 12 = .ok (.getfield 42, 3) := by decide +kernel
theorem dX8_keep_15 : decode cX8_keep 15 = .ok (.iload_n 1, 1) := by decide +kernel
theorem dX8_keep_16 : decode cX8_keep 16 = .ok (.aaload, 1) := by decide +kernel
theorem dX8_keep_17 : decode cX8_keep 17 = .ok (.astore_n 2, 1) := by decide +kernel
theorem dX8_keep_18 : decode cX8_keep 18 = .ok (.aload_n 2, 1) := by decide +kernel
theorem dX8_keep_19 : decode cX8_keep 19 = .ok (.iconst 1, 1) := by decide +kernel
theorem dX8_keep_20 : decode cX8_keep 20 = .ok (.putfield 90, 3) := by decide +kernel
theorem dX8_keep_23 : decode cX8_keep 23 = .ok (.aload_n 2, 1) := by decide +kernel
theorem dX8_keep_24 : decode cX8_keep 24 = .ok (.getfield 292, 3) := by decide +kernel
theorem dX8_keep_27 : decode cX8_keep 27 = .ok (.aload_n 0, 1) := by decide +kernel
theorem dX8_keep_28 : decode cX8_keep 28 = .ok (.getfield 29, 3) := by decide +kernel
theorem dX8_keep_31 : decode cX8_keep 31 = .ok (.invokevirtual 293, 3) := by decide +kernel
theorem dX8_keep_34 : decode cX8_keep 34 = .ok (.aload_n 2, 1) := by decide +kernel
theorem dX8_keep_35 : decode cX8_keep 35 = .ok (.getfield 296, 3) := by decide +kernel
theorem dX8_keep_38 : decode cX8_keep 38 = .ok (.aload_n 0, 1) := by decide +kernel
theorem dX8_keep_39 : decode cX8_keep 39 = .ok (.getfield 36, 3) := by decide +kernel
theorem dX8_keep_42 : decode cX8_keep 42 = .ok (.invokevirtual 297, 3) := by decide +kernel
theorem dX8_keep_45 : decode cX8_keep 45 = .ok (.aload_n 0, 1) := by decide +kernel
theorem dX8_keep_46 : decode cX8_keep 46 = .ok (.getfield 29, 3) := by decide +kernel
theorem dX8_keep_49 : decode cX8_keep 49 = .ok (.getfield 158, 3) := by decide +kernel
theorem dX8_keep_52 : decode cX8_keep 52 = .ok (.ireturn, 1) := by decide +kernel
set_option maxRecDepth 20000 in
theorem ggX8_back_X5_copyFrom : GoodIn wsX8_back wsX5_copyFrom := goodIn_r _ [12, 13, 14, 15, 16, 17, 18, 19, 20, 21, 44, 45, 46, 47, 48] (by decide +kernel) (by decide +kernel)
set_option maxRecDepth 20000 in
theorem gX8_back_X5_copyFrom : GoodIn wsX8_back (wsV RX8 293 RX5 yX5_copyFrom wsX5_copyFrom) := goodIn_app (goodIn_of _ (by decide +kernel)) ggX8_back_X5_copyFrom
set_option maxRecDepth 20000 in
theorem ggX8_back_X6_copyFrom : GoodIn wsX8_back wsX6_copyFrom := goodIn_r _ [26, 27, 28, 29, 9, 10, 11, 12, 13, 14, 15, 16, 17, 18, 19, 20, 21, 49, 50, 44, 45, 46, 47, 48] (by decide +kernel) (by decide +kernel)
set_option maxRecDepth 20000 in
theorem gX8_back_X6_copyFrom : GoodIn wsX8_back (wsV RX8 297 RX6 yX6_copyFrom wsX6_copyFrom) := goodIn_app (goodIn_of _ (by decide +kernel)) ggX8_back_X6_copyFrom
theorem dX8_back_0 : decode cX8_back 0 = .ok (.iload_n 1, 1) := by decide +kernel
theorem dX8_back_1 : decode cX8_back 1 = .ok (.ifCond .lt 8, 3) := by decide +kernel
theorem dX8_back_4 : decode cX8_back 4 = .ok (.iload_n 1, 1) := by decide +kernel
theorem dX8_back_5 : decode cX8_back 5 = .ok (.iconst 2, 1) := by decide +kernel
theorem dX8_back_6 : decode cX8_back 6 = .ok (.if_icmp .lt 5, 3) := by decide +kernel
theorem dX8_back_9 : decode cX8_back 9 = .ok (.iconst (-1), 1) := by decide +kernel
theorem dX8_back_10 : decode cX8_back 10 = .ok (.ireturn, 1) := by decide +kernel
theorem dX8_back_11 : decode cX8_back 11 = .ok (.aload_n 0, 1) := by decide +kernel
theorem dX8_back_12 : decode cX8_back 12 = .ok (.getfield 42, 3) := by decide +kernel
theorem dX8_back_15 : decode cX8_back 15 = .ok (.iload_n 1, 1) := by decide +kernel
theorem dX8_back_16 : decode cX8_back 16 = .ok (.aaload, 1) := by decide +kernel
theorem dX8_back_17 : decode cX8_back 17 = .ok (.astore_n 2, 1) := by decide +kernel
theorem dX8_back_18 : decode cX8_back 18 = .ok (.aload_n 2, 1) := by decide +kernel
theorem dX8_back_19 : decode cX8_back 19 = .ok (.getfield 90, 3) := by decide +kernel
theorem dX8_back_22 : decode cX8_back 22 = .ok (.ifCond .ne 6, 3) := by decide +kernel
theorem dX8_back_25 : decode cX8_back 25 = .ok (.bipush (-2), 2) := by decide +kernel
theorem dX8_back_27 : decode cX8_back 27 = .ok (.ireturn, 1) := by decide +kernel
theorem dX8_back_28 : decode cX8_back 28 = .ok (.aload_n 0, 1) := by decide +kernel
theorem dX8_back_29 : decode cX8_back 29 = .ok (.getfield 29, 3) := by decide +kernel
theorem dX8_back_32 : decode cX8_back 32 = .ok (.aload_n 2, 1) := by decide +kernel
theorem dX8_back_33 : decode cX8_back 33 = .ok (.getfield 292, 3) := by decide +kernel
theorem dX8_back_36 : decode cX8_back 36 = .ok (.invokevirtual 293, 3) := by decide +kernel
theorem dX8_back_39 : decode cX8_back 39 = .ok (.aload_n 0, 1) := by decide +kernel
theorem dX8_back_40 : decode cX8_back 40 = .ok (.getfield 36, 3) := by decide +kernel
theorem dX8_back_43 : decode cX8_back 43 = .ok (.aload_n 2, 1) := by decide +kernel
theorem dX8_back_44 : decode cX8_back 44 = .ok (.getfield 296, 3) := by decide +kernel
theorem dX8_back_47 : decode cX8_back 47 = .ok (.invokevirtual 297, 3) := by decide +kernel
theorem dX8_back_50 : decode cX8_back 50 = .ok (.aload_n 0, 1) := by decide +kernel
theorem dX8_back_51 : decode cX8_back 51 = .ok (.getfield 29, 3) := by decide +kernel
theorem dX8_back_54 : decode cX8_back 54 = .ok (.getfield 158, 3) := by decide +kernel
theorem dX8_back_57 : decode cX8_back 57 = .ok (.ireturn, 1) := by decide +kernel
theorem dX8_count_0 : decode cX8_count 0 = .ok (.iload_n 1, 1) := by decide +kernel
theorem dX8_count_1 : decode cX8_count 1 = .ok (.tableswitch 87 0 5 #[39, 47, 55, 63, 71, 79], 39) := by decide +kernel
theorem dX8_count_40 : decode cX8_count 40 = .ok (.aload_n 0, 1) := by decide +kernel
theorem dX8_count_41 : decode cX8_count 41 = .ok (.getfield 19, 3) := by decide +kernel
theorem dX8_count_44 : decode cX8_count 44 = .ok (.getfield 194, 3) := by decide +kernel
theorem dX8_count_47 : decode cX8_count 47 = .ok (.ireturn, 1) := by decide +kernel
theorem dX8_count_48 : decode cX8_count 48 = .ok (.aload_n 0, 1) := by decide +kernel
theorem dX8_count_49 : decode cX8_count 49 = .ok (.getfield 19, 3) := by decide +kernel
theorem dX8_count_52 : decode cX8_count 52 = .ok (.getfield 161, 3) := by decide +kernel
theorem dX8_count_55 : decode cX8_count 55 = .ok (.ireturn, 1) := by decide +kernel
theorem dX8_count_56 : decode cX8_count 56 = .ok (.aload_n 0, 1) := by decide +kernel
theorem dX8_count_57 : decode cX8_count 57 = .ok (.getfield 19, 3) := by decide +kernel
theorem dX8_count_60 : decode cX8_count 60 = .ok (.getfield 242, 3) := by decide +kernel
theorem dX8_count_63 : decode cX8_count 63 = .ok (.ireturn, 1) := by decide +kernel
theorem dX8_count_64 : decode cX8_count 64 = .ok (.aload_n 0, 1) := by decide +kernel
theorem dX8_count_65 : decode cX8_count 65 = .ok (.getfield 49, 3) := by decide +kernel
theorem dX8_count_68 : decode cX8_count 68 = .ok (.getfield 89, 3) := by decide +kernel
theorem dX8_count_71 : decode cX8_count 71 = .ok (.ireturn, 1) := by decide +kernel
theorem dX8_count_72 : decode cX8_count 72 = .ok (.aload_n 0, 1) := by decide +kernel
theorem dX8_count_73 : decode cX8_count 73 = .ok (.getfield 36, 3) := by decide +kernel
theorem dX8_count_76 : decode cX8_count 76 = .ok (.getfield 86, 3) := by decide +kernel
theorem dX8_count_79 : decode cX8_count 79 = .ok (.ireturn, 1) := by decide +kernel
theorem dX8_count_80 : decode cX8_count 80 = .ok (.aload_n 0, 1) := by decide +kernel
theorem dX8_count_81 : decode cX8_count 81 = .ok (.getfield 10, 3) := by decide +kernel
theorem dX8_count_84 : decode cX8_count 84 = .ok (.getfield 72, 3) := by decide +kernel
theorem dX8_count_87 : decode cX8_count 87 = .ok (.ireturn, 1) := by decide +kernel
theorem dX8_count_88 : decode cX8_count 88 = .ok (.iconst (-1), 1) := by decide +kernel
theorem dX8_count_89 : decode cX8_count 89 = .ok (.ireturn, 1) := by decide +kernel
theorem dX8_trace_0 : decode cX8_trace 0 = .ok (.aload_n 0, 1) := by decide +kernel
theorem dX8_trace_1 : decode cX8_trace 1 = .ok (.getfield 300, 3) := by decide +kernel
theorem dX8_trace_4 : decode cX8_trace 4 = .ok (.lreturn, 1) := by decide +kernel
theorem dX8_markTenant_0 : decode cX8_markTenant 0 = .ok (.aload_n 0, 1) := by decide +kernel
theorem dX8_markTenant_1 : decode cX8_markTenant 1 = .ok (.dup, 1) := by decide +kernel
theorem dX8_markTenant_2 : decode cX8_markTenant 2 = .ok (.getfield 300, 3) := by decide +kernel
theorem dX8_markTenant_5 : decode cX8_markTenant 5 = .ok (.lconst 1, 1) := by decide +kernel
theorem dX8_markTenant_6 : decode cX8_markTenant 6 = .ok (.ladd, 1) := by decide +kernel
theorem dX8_markTenant_7 : decode cX8_markTenant 7 = .ok (.putfield 300, 3) := by decide +kernel
theorem dX8_markTenant_10 : decode cX8_markTenant 10 = .ok (.aload_n 0, 1) := by decide +kernel
theorem dX8_markTenant_11 : decode cX8_markTenant 11 = .ok (.getfield 29, 3) := by decide +kernel
theorem dX8_markTenant_14 : decode cX8_markTenant 14 = .ok (.getfield 132, 3) := by decide +kernel
theorem dX8_markTenant_17 : decode cX8_markTenant 17 = .ok (.iload_n 1, 1) := by decide +kernel
theorem dX8_markTenant_18 : decode cX8_markTenant 18 = .ok (.iaload, 1) := by decide +kernel
theorem dX8_markTenant_19 : decode cX8_markTenant 19 = .ok (.ireturn, 1) := by decide +kernel
set_option maxRecDepth 20000 in
theorem ggX8_markTalker_X8_markTenant : GoodIn wsX8_markTalker wsX8_markTenant := goodIn_r _ [9, 1, 10, 11, 12, 13, 14, 15, 16, 17, 18, 19, 20, 21, 22, 33, 34, 35, 36, 37] (by decide +kernel) (by decide +kernel)
set_option maxRecDepth 20000 in
theorem gX8_markTalker_X8_markTenant : GoodIn wsX8_markTalker (wsV RX8 274 RX8 yX8_markTenant wsX8_markTenant) := goodIn_app (goodIn_of _ (by decide +kernel)) ggX8_markTalker_X8_markTenant
theorem dX8_markTalker_0 : decode cX8_markTalker 0 = .ok (.aload_n 0, 1) := by decide +kernel
theorem dX8_markTalker_1 : decode cX8_markTalker 1 = .ok (.dup, 1) := by decide +kernel
theorem dX8_markTalker_2 : decode cX8_markTalker 2 = .ok (.getfield 300, 3) := by decide +kernel
theorem dX8_markTalker_5 : decode cX8_markTalker 5 = .ok (.ldc2_w 250, 3) := by decide +kernel
theorem dX8_markTalker_8 : decode cX8_markTalker 8 = .ok (.ladd, 1) := by decide +kernel
theorem dX8_markTalker_9 : decode cX8_markTalker 9 = .ok (.putfield 300, 3) := by decide +kernel
theorem dX8_markTalker_12 : decode cX8_markTalker 12 = .ok (.aload_n 0, 1) := by decide +kernel
theorem dX8_markTalker_13 : decode cX8_markTalker 13 = .ok (.iload_n 1, 1) := by decide +kernel
theorem dX8_markTalker_14 : decode cX8_markTalker 14 = .ok (.invokevirtual 274, 3) := by decide +kernel
theorem dX8_markTalker_17 : decode cX8_markTalker 17 = .ok (.aload_n 0, 1) := by decide +kernel
theorem dX8_markTalker_18 : decode cX8_markTalker 18 = .ok (.getfield 19, 3) := by decide +kernel
theorem dX8_markTalker_21 : decode cX8_markTalker 21 = .ok (.getfield 114, 3) := by decide +kernel
theorem dX8_markTalker_24 : decode cX8_markTalker 24 = .ok (.iload_n 1, 1) := by decide +kernel
theorem dX8_markTalker_25 : decode cX8_markTalker 25 = .ok (.iaload, 1) := by decide +kernel
theorem dX8_markTalker_26 : decode cX8_markTalker 26 = .ok (.iadd, 1) := by decide +kernel
theorem dX8_markTalker_27 : decode cX8_markTalker 27 = .ok (.ireturn, 1) := by decide +kernel
set_option maxRecDepth 20000 in
theorem ggX8_markMute_X8_markTenant : GoodIn wsX8_markMute wsX8_markTenant := goodIn_r _ [9, 1, 10, 11, 12, 13, 14, 15, 16, 17, 18, 19, 20, 21, 22, 33, 34, 35, 36, 37] (by decide +kernel) (by decide +kernel)
set_option maxRecDepth 20000 in
theorem gX8_markMute_X8_markTenant : GoodIn wsX8_markMute (wsV RX8 274 RX8 yX8_markTenant wsX8_markTenant) := goodIn_app (goodIn_of _ (by decide +kernel)) ggX8_markMute_X8_markTenant
theorem dX8_markMute_0 : decode cX8_markMute 0 = .ok (.aload_n 0, 1) := by decide +kernel
theorem dX8_markMute_1 : decode cX8_markMute 1 = .ok (.dup, 1) := by decide +kernel
theorem dX8_markMute_2 : decode cX8_markMute 2 = .ok (.getfield 300, 3) := by decide +kernel
theorem dX8_markMute_5 : decode cX8_markMute 5 = .ok (.ldc2_w 304, 3) := by decide +kernel
theorem dX8_markMute_8 : decode cX8_markMute 8 = .ok (.ladd, 1) := by decide +kernel
theorem dX8_markMute_9 : decode cX8_markMute 9 = .ok (.putfield 300, 3) := by decide +kernel
theorem dX8_markMute_12 : decode cX8_markMute 12 = .ok (.aload_n 0, 1) := by decide +kernel
theorem dX8_markMute_13 : decode cX8_markMute 13 = .ok (.iload_n 1, 1) := by decide +kernel
theorem dX8_markMute_14 : decode cX8_markMute 14 = .ok (.invokevirtual 274, 3) := by decide +kernel
theorem dX8_markMute_17 : decode cX8_markMute 17 = .ok (.aload_n 0, 1) := by decide +kernel
theorem dX8_markMute_18 : decode cX8_markMute 18 = .ok (.getfield 19, 3) := by decide +kernel
theorem dX8_markMute_21 : decode cX8_markMute 21 = .ok (.getfield 117, 3) := by decide +kernel
theorem dX8_markMute_24 : decode cX8_markMute 24 = .ok (.iload_n 1, 1) := by decide +kernel
theorem dX8_markMute_25 : decode cX8_markMute 25 = .ok (.iaload, 1) := by decide +kernel
theorem dX8_markMute_26 : decode cX8_markMute 26 = .ok (.isub, 1) := by decide +kernel
theorem dX8_markMute_27 : decode cX8_markMute 27 = .ok (.ireturn, 1) := by decide +kernel
set_option maxRecDepth 20000 in
theorem ggX8_markWhistler_X8_markTalker : GoodIn wsX8_markWhistler wsX8_markTalker := goodIn_r _ [7, 1, 8, 9, 10, 11, 12, 13, 6, 14, 15, 16, 17, 18, 19, 20, 21, 22, 23, 24, 25, 26, 27, 28, 29, 30, 31, 32, 33, 34, 35, 36, 37, 38, 39, 40, 41, 42] (by decide +kernel) (by decide +kernel)
set_option maxRecDepth 20000 in
theorem gX8_markWhistler_X8_markTalker : GoodIn wsX8_markWhistler (wsV RX8 277 RX8 yX8_markTalker wsX8_markTalker) := goodIn_app (goodIn_of _ (by decide +kernel)) ggX8_markWhistler_X8_markTalker
theorem dX8_markWhistler_0 : decode cX8_markWhistler 0 = .ok (.aload_n 0, 1) := by decide +kernel
theorem dX8_markWhistler_1 : decode cX8_markWhistler 1 = .ok (.dup, 1) := by decide +kernel
theorem dX8_markWhistler_2 : decode cX8_markWhistler 2 = .ok (.getfield 300, 3) := by decide +kernel
theorem dX8_markWhistler_5 : decode cX8_markWhistler 5 = .ok (.ldc2_w 306, 3) := by decide +kernel
theorem dX8_markWhistler_8 : decode cX8_markWhistler 8 = .ok (.ladd, 1) := by decide +kernel
theorem dX8_markWhistler_9 : decode cX8_markWhistler 9 = .ok (.putfield 300, 3) := by decide +kernel
theorem dX8_markWhistler_12 : decode cX8_markWhistler 12 = .ok (.aload_n 0, 1) := by decide +kernel
theorem dX8_markWhistler_13 : decode cX8_markWhistler 13 = .ok (.iload_n 1, 1) := by decide +kernel
theorem dX8_markWhistler_14 : decode cX8_markWhistler 14 = .ok (.invokevirtual 277, 3) := by decide +kernel
theorem dX8_markWhistler_17 : decode cX8_markWhistler 17 = .ok (.iconst 2, 1) := by decide +kernel
theorem dX8_markWhistler_18 : decode cX8_markWhistler 18 = .ok (.imul, 1) := by decide +kernel
theorem dX8_markWhistler_19 : decode cX8_markWhistler 19 = .ok (.ireturn, 1) := by decide +kernel
set_option maxRecDepth 20000 in
theorem ggX8_markHired_X8_markMute : GoodIn wsX8_markHired wsX8_markMute := goodIn_r _ [9, 1, 10, 3, 11, 12, 13, 14, 8, 15, 16, 17, 18, 19, 20, 21, 22, 23, 24, 25, 26, 27, 28, 29, 30, 31, 32, 33, 34, 35, 36, 37, 38, 39, 40, 41, 42, 43] (by decide +kernel) (by decide +kernel)
set_option maxRecDepth 20000 in
theorem gX8_markHired_X8_markMute : GoodIn wsX8_markHired (wsV RX8 280 RX8 yX8_markMute wsX8_markMute) := goodIn_app (goodIn_of _ (by decide +kernel)) ggX8_markHired_X8_markMute
theorem dX8_markHired_0 : decode cX8_markHired 0 = .ok (.aload_n 0, 1) := by decide +kernel
theorem dX8_markHired_1 : decode cX8_markHired 1 = .ok (.dup, 1) := by decide +kernel
theorem dX8_markHired_2 : decode cX8_markHired 2 = .ok (.getfield 300, 3) := by decide +kernel
theorem dX8_markHired_5 : decode cX8_markHired 5 = .ok (.ldc2_w 308, 3) := by decide +kernel
theorem dX8_markHired_8 : decode cX8_markHired 8 = .ok (.ladd, 1) := by decide +kernel
theorem dX8_markHired_9 : decode cX8_markHired 9 = .ok (.putfield 300, 3) := by decide +kernel
theorem dX8_markHired_12 : decode cX8_markHired 12 = .ok (.aload_n 0, 1) := by decide +kernel
theorem dX8_markHired_13 : decode cX8_markHired 13 = .ok (.iload_n 1, 1) := by decide +kernel
theorem dX8_markHired_14 : decode cX8_markHired 14 = .ok (.invokevirtual 280, 3) := by decide +kernel
theorem dX8_markHired_17 : decode cX8_markHired 17 = .ok (.aload_n 0, 1) := by decide +kernel
theorem dX8_markHired_18 : decode cX8_markHired 18 = .ok (.getfield 19, 3) := by decide +kernel
theorem dX8_markHired_21 : decode cX8_markHired 21 = .ok (.getfield 120, 3) := by decide +kernel
theorem dX8_markHired_24 : decode cX8_markHired 24 = .ok (.iload_n 1, 1) := by decide +kernel
theorem dX8_markHired_25 : decode cX8_markHired 25 = .ok (.iaload, 1) := by decide +kernel
theorem dX8_markHired_26 : decode cX8_markHired 26 = .ok (.iadd, 1) := by decide +kernel
theorem dX8_markHired_27 : decode cX8_markHired 27 = .ok (.ireturn, 1) := by decide +kernel
set_option maxRecDepth 20000 in
theorem ggX8_markLawyer_X8_markTenant : GoodIn wsX8_markLawyer wsX8_markTenant := goodIn_r _ [9, 1, 3, 10, 11, 12, 13, 14, 15, 16, 17, 18, 19, 20, 21, 22, 23, 24, 25, 26] (by decide +kernel) (by decide +kernel)
set_option maxRecDepth 20000 in
theorem gX8_markLawyer_X8_markTenant : GoodIn wsX8_markLawyer (wsV RX8 274 RX8 yX8_markTenant wsX8_markTenant) := goodIn_app (goodIn_of _ (by decide +kernel)) ggX8_markLawyer_X8_markTenant
theorem dX8_markLawyer_0 : decode cX8_markLawyer 0 = .ok (.aload_n 0, 1) := by decide +kernel
theorem dX8_markLawyer_1 : decode cX8_markLawyer 1 = .ok (.dup, 1) := by decide +kernel
theorem dX8_markLawyer_2 : decode cX8_markLawyer 2 = .ok (.getfield 300, 3) := by decide +kernel
theorem dX8_markLawyer_5 : decode cX8_markLawyer 5 = .ok (.ldc2_w 310, 3) := by decide +kernel
theorem dX8_markLawyer_8 : decode cX8_markLawyer 8 = .ok (.ladd, 1) := by decide +kernel
theorem dX8_markLawyer_9 : decode cX8_markLawyer 9 = .ok (.putfield 300, 3) := by decide +kernel
theorem dX8_markLawyer_12 : decode cX8_markLawyer 12 = .ok (.aload_n 0, 1) := by decide +kernel
theorem dX8_markLawyer_13 : decode cX8_markLawyer 13 = .ok (.iload_n 1, 1) := by decide +kernel
theorem dX8_markLawyer_14 : decode cX8_markLawyer 14 = .ok (.invokevirtual 274, 3) := by decide +kernel
theorem dX8_markLawyer_17 : decode cX8_markLawyer 17 = .ok (.aload_n 0, 1) := by decide +kernel
theorem dX8_markLawyer_18 : decode cX8_markLawyer 18 = .ok (.getfield 29, 3) := by decide +kernel
theorem dX8_markLawyer_21 : decode cX8_markLawyer 21 = .ok (.getfield 158, 3) := by decide +kernel
theorem dX8_markLawyer_24 : decode cX8_markLawyer 24 = .ok (.iadd, 1) := by decide +kernel
theorem dX8_markLawyer_25 : decode cX8_markLawyer 25 = .ok (.ireturn, 1) := by decide +kernel
theorem dX9_in_0 : decode cX9_in 0 = .ok (.lload_n 0, 1) := by decide +kernel
theorem dX9_in_1 : decode cX9_in 1 = .ok (.lload_n 2, 1) := by decide +kernel
theorem dX9_in_2 : decode cX9_in 2 = .ok (.lcmp, 1) := by decide +kernel
theorem dX9_in_3 : decode cX9_in 3 = .ok (.ifCond .lt 14, 3) := by decide +kernel
theorem dX9_in_6 : decode cX9_in 6 = .ok (.lload_n 0, 1) := by decide +kernel
theorem dX9_in_7 : decode cX9_in 7 = .ok (.lload 4, 2) := by decide +kernel
theorem dX9_in_9 : decode cX9_in 9 = .ok (.lcmp, 1) := by decide +kernel
theorem dX9_in_10 : decode cX9_in 10 = .ok (.ifCond .gt 7, 3) := by decide +kernel
theorem dX9_in_13 : decode cX9_in 13 = .ok (.iconst 1, 1) := by decide +kernel
theorem dX9_in_14 : decode cX9_in 14 = .ok (.goto 4, 3) := by decide +kernel
theorem dX9_in_17 : decode cX9_in 17 = .ok (.iconst 0, 1) := by decide +kernel
theorem dX9_in_18 : decode cX9_in 18 = .ok (.ireturn, 1) := by decide +kernel
set_option maxRecDepth 20000 in
theorem ggX9_init_X9_anew : GoodIn wsX9_init wsX9_anew := goodIn_r _ [20, 8, 21, 22, 15, 23, 24, 25, 26, 27, 28, 29, 30, 31, 32, 33, 34, 35, 36, 37, 38, 39, 40, 41, 42, 43, 44] (by decide +kernel) (by decide +kernel)
set_option maxRecDepth 20000 in
theorem gX9_init_X9_anew : GoodIn wsX9_init (wsV RX9 43 RX9 yX9_anew wsX9_anew) := goodIn_app (goodIn_of _ (by decide +kernel)) ggX9_init_X9_anew
theorem dX9_init_0 : decode cX9_init 0 = .ok (.aload_n 0, 1) := by decide +kernel
theorem dX9_init_1 : decode cX9_init 1 = .ok (.invokespecial 1, 3) := by decide +kernel
theorem dX9_init_4 : decode cX9_init 4 = .ok (.aload_n 0, 1) := by decide +kernel
theorem dX9_init_5 : decode cX9_init 5 = .ok (.sipush 200, 3) := by decide +kernel
theorem dX9_init_8 : decode cX9_init 8 = .ok (.newarray .int, 2) := by decide +kernel
theorem dX9_init_10 : decode cX9_init 10 = .ok (.putfield 7, 3) := by decide +kernel
theorem dX9_init_13 : decode cX9_init 13 = .ok (.aload_n 0, 1) := by decide +kernel
theorem dX9_init_14 : decode cX9_init 14 = .ok (.bipush 44, 2) := by decide +kernel
theorem dX9_init_16 : decode cX9_init 16 = .ok (.newarray .int, 2) := by decide +kernel
theorem dX9_init_18 : decode cX9_init 18 = .ok (.putfield 13, 3) := by decide +kernel
theorem dX9_init_21 : decode cX9_init 21 = .ok (.aload_n 0, 1) := by decide +kernel
theorem dX9_init_22 : decode cX9_init 22 = .ok (.bipush 44, 2) := by decide +kernel
theorem dX9_init_24 : decode cX9_init 24 = .ok (.newarray .int, 2) := by decide +kernel
theorem dX9_init_26 : decode cX9_init 26 = .ok (.putfield 16, 3) := by decide +kernel
theorem dX9_init_29 : decode cX9_init 29 = .ok (.aload_n 0, 1) := by decide +kernel
theorem dX9_init_30 : decode cX9_init 30 = .ok (.bipush 25, 2) := by decide +kernel
theorem dX9_init_32 : decode cX9_init 32 = .ok (.newarray .int, 2) := by decide +kernel
theorem dX9_init_34 : decode cX9_init 34 = .ok (.putfield 19, 3) := by decide +kernel
theorem dX9_init_37 : decode cX9_init 37 = .ok (.aload_n 0, 1) := by decide +kernel
theorem dX9_init_38 : decode cX9_init 38 = .ok (.sipush 250, 3) := by decide +kernel
theorem dX9_init_41 : decode cX9_init 41 = .ok (.newarray .int, 2) := by decide +kernel
theorem dX9_init_43 : decode cX9_init 43 = .ok (.putfield 22, 3) := by decide +kernel
theorem dX9_init_46 : decode cX9_init 46 = .ok (.aload_n 0, 1) := by decide +kernel
theorem dX9_init_47 : decode cX9_init 47 = .ok (.bipush 6, 2) := by decide +kernel
theorem dX9_init_49 : decode cX9_init 49 = .ok (.newarray .int, 2) := by decide +kernel
theorem dX9_init_51 : decode cX9_init 51 = .ok (.putfield 25, 3) := by decide +kernel
theorem dX9_init_54 : decode cX9_init 54 = .ok (.aload_n 0, 1) := by decide +kernel
theorem dX9_init_55 : decode cX9_init 55 = .ok (.bipush 64, 2) := by decide +kernel
theorem dX9_init_57 : decode cX9_init 57 = .ok (.newarray .int, 2) := by decide +kernel
theorem dX9_init_59 : decode cX9_init 59 = .ok (.putfield 28, 3) := by decide +kernel
theorem dX9_init_62 : decode cX9_init 62 = .ok (.aload_n 0, 1) := by decide +kernel
theorem dX9_init_63 : decode cX9_init 63 = .ok (.bipush 6, 2) := by decide +kernel
theorem dX9_init_65 : decode cX9_init 65 = .ok (.newarray .int, 2) := by decide +kernel
theorem dX9_init_67 : decode cX9_init 67 = .ok (.putfield 31, 3) := by decide +kernel
theorem dX9_init_70 : decode cX9_init 70 = .ok (.aload_n 0, 1) := by decide +kernel
theorem dX9_init_71 : decode cX9_init 71 = .ok (.bipush 6, 2) := by decide +kernel
theorem dX9_init_73 : decode cX9_init 73 = .ok (.newarray .int, 2) := by decide +kernel
theorem dX9_init_75 : decode cX9_init 75 = .ok (.putfield 34, 3) := by decide +kernel
theorem dX9_init_78 : decode cX9_init 78 = .ok (.aload_n 0, 1) := by decide +kernel
theorem dX9_init_79 : decode cX9_init 79 = .ok (.bipush 6, 2) := by decide +kernel
theorem dX9_init_81 : decode cX9_init 81 = .ok (.newarray .int, 2) := by decide +kernel
theorem dX9_init_83 : decode cX9_init 83 = .ok (.putfield 37, 3) := by decide +kernel
theorem dX9_init_86 : decode cX9_init 86 = .ok (.aload_n 0, 1) := by decide +kernel
theorem dX9_init_87 : decode cX9_init 87 = .ok (.sipush 554, 3) := by decide +kernel
theorem dX9_init_90 : decode cX9_init 90 = .ok (.newarray .int, 2) := by decide +kernel
theorem dX9_init_92 : decode cX9_init 92 = .ok (.putfield 40, 3) := by decide +kernel
theorem dX9_init_95 : decode cX9_init 95 = .ok (.aload_n 0, 1) := by decide +kernel
theorem dX9_init_96 : decode cX9_init 96 = .ok (.invokevirtual 43, 3) := by decide +kernel
theorem dX9_init_99 : decode cX9_init 99 = .ok (.return_, 1) := by decide +kernel
set_option maxRecDepth 20000 in
theorem ggX9_type_X9_in : GoodIn wsX9_type wsX9_in := goodIn_r _ [7] (by decide +kernel) (by decide +kernel)
set_option maxRecDepth 20000 in
theorem gX9_type_X9_in : GoodIn wsX9_type (va_wsS RX9 48 yX9_in wsX9_in) := goodIn_app (goodIn_of _ (by decide +kernel)) ggX9_type_X9_in
theorem dX9_type_0 : decode cX9_type 0 = .ok (.iload_n 1, 1) := by decide +kernel
theorem dX9_type_1 : decode cX9_type 1 = .ok (.i2l, 1) := by decide +kernel
theorem dX9_type_2 : decode cX9_type 2 = .ok (.lconst 0, 1) := by decide +kernel
theorem dX9_type_3 : decode cX9_type 3 = .ok (.ldc2_w 46, 3) := by decide +kernel
theorem dX9_type_6 : decode cX9_type 6 = .ok (.invokestatic 48, 3) := by decide +kernel
theorem dX9_type_9 : decode cX9_type 9 = .ok (.ifCond .ne 5, 3) := by decide +kernel
theorem dX9_type_12 : decode cX9_type 12 = .ok (.iconst (-1), 1) := by decide +kernel
theorem dX9_type_13 : decode cX9_type 13 = .ok (.ireturn, 1) := by decide +kernel
theorem dX9_type_14 : decode cX9_type 14 = .ok (.aload_n 0, 1) := by decide +kernel
theorem dX9_type_15 : decode cX9_type 15 = .ok (.getfield 52, 3) := by decide +kernel
theorem dX9_type_18 : decode cX9_type 18 = .ok (.sipush 200, 3) := by decide +kernel
theorem dX9_type_21 : decode cX9_type 21 = .ok (.if_icmp .ne 6, 3) := by decide +kernel
theorem dX9_type_24 : decode cX9_type 24 = .ok (.bipush (-3), 2) := by decide +kernel
theorem dX9_type_26 : decode cX9_type 26 = .ok (.ireturn, 1) := by decide +kernel
theorem dX9_type_27 : decode cX9_type 27 = .ok (.aload_n 0, 1) := by decide +kernel
theorem dX9_type_28 : decode cX9_type 28 = .ok (.getfield 7, 3) := by decide +kernel
theorem dX9_type_31 : decode cX9_type 31 = .ok (.aload_n 0, 1) := by decide +kernel
theorem dX9_type_32 : decode cX9_type 32 = .ok (.getfield 52, 3) := by decide +kernel
theorem dX9_type_35 : decode cX9_type 35 = .ok (.iload_n 1, 1) := by decide +kernel
theorem dX9_type_36 : decode cX9_type 36 = .ok (.iastore, 1) := by decide +kernel
theorem dX9_type_37 : decode cX9_type 37 = .ok (.aload_n 0, 1) := by decide +kernel
theorem dX9_type_38 : decode cX9_type 38 = .ok (.dup, 1) := by decide +kernel
theorem dX9_type_39 : decode cX9_type 39 = .ok (.getfield 52, 3) := by decide +kernel
theorem dX9_type_42 : decode cX9_type 42 = .ok (.iconst 1, 1) := by decide +kernel
theorem dX9_type_43 : decode cX9_type 43 = .ok (.iadd, 1) := by decide +kernel
theorem dX9_type_44 : decode cX9_type 44 = .ok (.putfield 52, 3) := by decide +kernel
theorem dX9_type_47 : decode cX9_type 47 = .ok (.aload_n 0, 1) := by decide +kernel
theorem dX9_type_48 : decode cX9_type 48 = .ok (.getfield 52, 3) := by decide +kernel
theorem dX9_type_51 : decode cX9_type 51 = .ok (.ireturn, 1) := by decide +kernel
theorem dX9_clear_0 : decode cX9_clear 0 = .ok (.aload_n 0, 1) := by decide +kernel
theorem dX9_clear_1 : decode cX9_clear 1 = .ok (.getfield 52, 3) := by decide +kernel
theorem dX9_clear_4 : decode cX9_clear 4 = .ok (.istore_n 1, 1) := by decide +kernel
theorem dX9_clear_5 : decode cX9_clear 5 = .ok (.aload_n 0, 1) := by decide +kernel
theorem dX9_clear_6 : decode cX9_clear 6 = .ok (.iconst 0, 1) := by decide +kernel
theorem dX9_clear_7 : decode cX9_clear 7 = .ok (.putfield 52, 3) := by decide +kernel
theorem dX9_clear_10 : decode cX9_clear 10 = .ok (.iload_n 1, 1) := by decide +kernel
theorem dX9_clear_11 : decode cX9_clear 11 = .ok (.ireturn, 1) := by decide +kernel
set_option maxRecDepth 20000 in
theorem ggX9_isLetter_X9_in : GoodIn wsX9_isLetter wsX9_in := goodIn_r _ [6] (by decide +kernel) (by decide +kernel)
set_option maxRecDepth 20000 in
theorem gX9_isLetter_X9_in : GoodIn wsX9_isLetter (va_wsS RX9 48 yX9_in wsX9_in) := goodIn_app (goodIn_of _ (by decide +kernel)) ggX9_isLetter_X9_in
theorem dX9_isLetter_0 : decode cX9_isLetter 0 = .ok (.iload_n 0, 1) := by decide +kernel
theorem dX9_isLetter_1 : decode cX9_isLetter 1 = .ok (.i2l, 1) := by decide +kernel
theorem dX9_isLetter_2 : decode cX9_isLetter 2 = .ok (.ldc2_w 56, 3) := by decide +kernel
theorem dX9_isLetter_5 : decode cX9_isLetter 5 = .ok (.ldc2_w 58, 3) := by decide +kernel
theorem dX9_isLetter_8 : decode cX9_isLetter 8 = .ok (.invokestatic 48, 3) := by decide +kernel
theorem dX9_isLetter_11 : decode cX9_isLetter 11 = .ok (.ireturn, 1) := by decide +kernel
set_option maxRecDepth 20000 in
theorem ggX9_isFigure_X9_in : GoodIn wsX9_isFigure wsX9_in := goodIn_r _ [6] (by decide +kernel) (by decide +kernel)
set_option maxRecDepth 20000 in
theorem gX9_isFigure_X9_in : GoodIn wsX9_isFigure (va_wsS RX9 48 yX9_in wsX9_in) := goodIn_app (goodIn_of _ (by decide +kernel)) ggX9_isFigure_X9_in
theorem dX9_isFigure_0 : decode cX9_isFigure 0 = .ok (.iload_n 0, 1) := by decide +kernel
theorem dX9_isFigure_1 : decode cX9_isFigure 1 = .ok (.i2l, 1) := by decide +kernel
theorem dX9_isFigure_2 : decode cX9_isFigure 2 = .ok (.ldc2_w 60, 3) := by decide +kernel
theorem dX9_isFigure_5 : decode cX9_isFigure 5 = .ok (.ldc2_w 62, 3) := by decide +kernel
theorem dX9_isFigure_8 : decode cX9_isFigure 8 = .ok (.invokestatic 48, 3) := by decide +kernel
theorem dX9_isFigure_11 : decode cX9_isFigure 11 = .ok (.ireturn, 1) := by decide +kernel
set_option maxRecDepth 20000 in
theorem ggX9_readLetters_X9_isLetter : GoodIn wsX9_readLetters wsX9_isLetter := goodIn_r _ [10, 11, 12, 13, 14, 9, 15] (by decide +kernel) (by decide +kernel)
set_option maxRecDepth 20000 in
theorem gX9_readLetters_X9_isLetter : GoodIn wsX9_readLetters (va_wsS RX9 70 yX9_isLetter wsX9_isLetter) := goodIn_app (goodIn_of _ (by decide +kernel)) ggX9_readLetters_X9_isLetter
theorem dX9_readLetters_0 : decode cX9_readLetters 0 = .ok (.aload_n 0, 1) := by decide +kernel
theorem dX9_readLetters_1 : decode cX9_readLetters 1 = .ok (.aload_n 0, 1) := by decide +kernel
theorem dX9_readLetters_2 : decode cX9_readLetters 2 = .ok (.getfield 7, 3) := by decide +kernel
theorem dX9_readLetters_5 : decode cX9_readLetters 5 = .ok (.aload_n 0, 1) := by decide +kernel
theorem dX9_readLetters_6 : decode cX9_readLetters 6 = .ok (.getfield 64, 3) := by decide +kernel
theorem dX9_readLetters_9 : decode cX9_readLetters 9 = .ok (.iaload, 1) := by decide +kernel
theorem dX9_readLetters_10 : decode cX9_readLetters 10 = .ok (.putfield 67, 3) := by decide +kernel
theorem dX9_readLetters_13 : decode cX9_readLetters 13 = .ok (.aload_n 0, 1) := by decide +kernel
theorem dX9_readLetters_14 : decode cX9_readLetters 14 = .ok (.getfield 64, 3) := by decide +kernel
theorem dX9_readLetters_17 : decode cX9_readLetters 17 = .ok (.aload_n 0, 1) := by decide +kernel
theorem dX9_readLetters_18 : decode cX9_readLetters 18 = .ok (.getfield 52, 3) := by decide +kernel
theorem dX9_readLetters_21 : decode cX9_readLetters 21 = .ok (.if_icmp .ge 31, 3) := by decide +kernel
theorem dX9_readLetters_24 : decode cX9_readLetters 24 = .ok (.aload_n 0, 1) := by decide +kernel
theorem dX9_readLetters_25 : decode cX9_readLetters 25 = .ok (.getfield 7, 3) := by decide +kernel
theorem dX9_readLetters_28 : decode cX9_readLetters 28 = .ok (.aload_n 0, 1) := by decide +kernel
theorem dX9_readLetters_29 : decode cX9_readLetters 29 = .ok (.getfield 64, 3) := by decide +kernel
theorem dX9_readLetters_32 : decode cX9_readLetters 32 = .ok (.iaload, 1) := by decide +kernel
theorem dX9_readLetters_33 : decode cX9_readLetters 33 = .ok (.invokestatic 70, 3) := by decide +kernel
theorem dX9_readLetters_36 : decode cX9_readLetters 36 = .ok (.ifCond .eq 16, 3) := by decide +kernel
theorem dX9_readLetters_39 : decode cX9_readLetters 39 = .ok (.aload_n 0, 1) := by decide +kernel
theorem dX9_readLetters_40 : decode cX9_readLetters 40 = .ok (.dup, 1) := by decide +kernel
theorem dX9_readLetters_41 : decode cX9_readLetters 41 = .ok (.getfield 64, 3) := by decide +kernel
theorem dX9_readLetters_44 : decode cX9_readLetters 44 = .ok (.iconst 1, 1) := by decide +kernel
theorem dX9_readLetters_45 : decode cX9_readLetters 45 = .ok (.iadd, 1) := by decide +kernel
theorem dX9_readLetters_46 : decode cX9_readLetters 46 = .ok (.putfield 64, 3) := by decide +kernel
theorem dX9_readLetters_49 : decode cX9_readLetters 49 = .ok (.goto (-36), 3) := by decide +kernel
theorem dX9_readLetters_52 : decode cX9_readLetters 52 = .ok (.aload_n 0, 1) := by decide +kernel
theorem dX9_readLetters_53 : decode cX9_readLetters 53 = .ok (.aload_n 0, 1) := by decide +kernel
theorem dX9_readLetters_54 : decode cX9_readLetters 54 = .ok (.getfield 64, 3) := by decide +kernel
theorem dX9_readLetters_57 : decode cX9_readLetters 57 = .ok (.aload_n 0, 1) := by decide +kernel
theorem dX9_readLetters_58 : decode cX9_readLetters 58 = .ok (.getfield 74, 3) := by decide +kernel
theorem dX9_readLetters_61 : decode cX9_readLetters 61 = .ok (.isub, 1) := by decide +kernel
theorem dX9_readLetters_62 : decode cX9_readLetters 62 = .ok (.iconst 1, 1) := by decide +kernel
theorem dX9_readLetters_63 : decode cX9_readLetters 63 = .ok (.if_icmp .ne 43, 3) := by decide +kernel
theorem dX9_readLetters_66 : decode cX9_readLetters 66 = .ok (.aload_n 0, 1) := by decide +kernel
theorem dX9_readLetters_67 : decode cX9_readLetters 67 = .ok (.getfield 67, 3) := by decide +kernel
theorem dX9_readLetters_70 : decode cX9_readLetters 70 = .ok (.bipush 114, 2) := by decide +kernel
theorem dX9_readLetters_72 : decode cX9_readLetters 72 = .ok (.if_icmp .eq 30, 3) := by decide +kernel
theorem dX9_readLetters_75 : decode cX9_readLetters 75 = .ok (.aload_n 0, 1) := by decide +kernel
theorem dX9_readLetters_76 : decode cX9_readLetters 76 = .ok (.getfield 67, 3) := by decide +kernel
theorem dX9_readLetters_79 : decode cX9_readLetters 79 = .ok (.bipush 116, 2) := by decide +kernel
theorem dX9_readLetters_81 : decode cX9_readLetters 81 = .ok (.if_icmp .eq 21, 3) := by decide +kernel
theorem dX9_readLetters_84 : decode cX9_readLetters 84 = .ok (.aload_n 0, 1) := by decide +kernel
theorem dX9_readLetters_85 : decode cX9_readLetters 85 = .ok (.getfield 67, 3) := by decide +kernel
theorem dX9_readLetters_88 : decode cX9_readLetters 88 = .ok (.bipush 104, 2) := by decide +kernel
theorem dX9_readLetters_90 : decode cX9_readLetters 90 = .ok (.if_icmp .eq 12, 3) := by decide +kernel
theorem dX9_readLetters_93 : decode cX9_readLetters 93 = .ok (.aload_n 0, 1) := by decide +kernel
theorem dX9_readLetters_94 : decode cX9_readLetters 94 = .ok (.getfield 67, 3) := by decide +kernel
theorem dX9_readLetters_97 : decode cX9_readLetters 97 = .ok (.bipush 99, 2) := by decide +kernel
theorem dX9_readLetters_99 : decode cX9_readLetters 99 = .ok (.if_icmp .ne 7, 3) := by decide +kernel
theorem dX9_readLetters_102 : decode cX9_readLetters 102 = .ok (.iconst 1, 1) := by decide +kernel
theorem dX9_readLetters_103 : decode cX9_readLetters 103 = .ok (.goto 4, 3) := by decide +kernel
theorem dX9_readLetters_106 : decode cX9_readLetters 106 = .ok (.iconst 4, 1) := by decide +kernel
theorem dX9_readLetters_107 : decode cX9_readLetters 107 = .ok (.putfield 77, 3) := by decide +kernel
theorem dX9_readLetters_110 : decode cX9_readLetters 110 = .ok (.return_, 1) := by decide +kernel
set_option maxRecDepth 20000 in
theorem ggX9_readNumber_X9_isFigure : GoodIn wsX9_readNumber wsX9_isFigure := goodIn_r _ [10, 11, 12, 13, 14, 9, 15] (by decide +kernel) (by decide +kernel)
set_option maxRecDepth 20000 in
theorem gX9_readNumber_X9_isFigure : GoodIn wsX9_readNumber (va_wsS RX9 80 yX9_isFigure wsX9_isFigure) := goodIn_app (goodIn_of _ (by decide +kernel)) ggX9_readNumber_X9_isFigure
theorem dX9_readNumber_0 : decode cX9_readNumber 0 = .ok (.iconst 0, 1) := by decide +kernel
theorem dX9_readNumber_1 : decode cX9_readNumber 1 = .ok (.istore_n 1, 1) := by decide +kernel
theorem dX9_readNumber_2 : decode cX9_readNumber 2 = .ok (.aload_n 0, 1) := by decide +kernel
theorem dX9_readNumber_3 : decode cX9_readNumber 3 = .ok (.getfield 64, 3) := by decide +kernel
theorem dX9_readNumber_6 : decode cX9_readNumber 6 = .ok (.aload_n 0, 1) := by decide +kernel
theorem dX9_readNumber_7 : decode cX9_readNumber 7 = .ok (.getfield 52, 3) := by decide +kernel
theorem dX9_readNumber_10 : decode cX9_readNumber 10 = .ok (.if_icmp .ge 59, 3) := by decide +kernel
theorem dX9_readNumber_13 : decode cX9_readNumber 13 = .ok (.aload_n 0, 1) := by decide +kernel
theorem dX9_readNumber_14 : decode cX9_readNumber 14 = .ok (.getfield 7, 3) := by decide +kernel
theorem dX9_readNumber_17 : decode cX9_readNumber 17 = .ok (.aload_n 0, 1) := by decide +kernel
theorem dX9_readNumber_18 : decode cX9_readNumber 18 = .ok (.getfield 64, 3) := by decide +kernel
theorem dX9_readNumber_21 : decode cX9_readNumber 21 = .ok (.iaload, 1) := by decide +kernel
theorem dX9_readNumber_22 : decode cX9_readNumber 22 = .ok (.invokestatic 80, 3) := by decide +kernel
theorem dX9_readNumber_25 : decode cX9_readNumber 25 = .ok (.ifCond .eq 44, 3) := by decide +kernel
theorem dX9_readNumber_28 : decode cX9_readNumber 28 = .ok (.iload_n 1, 1) := by decide +kernel
theorem dX9_readNumber_29 : decode cX9_readNumber 29 = .ok (.bipush 99, 2) := by decide +kernel
theorem dX9_readNumber_31 : decode cX9_readNumber 31 = .ok (.if_icmp .le 7, 3) := by decide +kernel
theorem dX9_readNumber_34 : decode cX9_readNumber 34 = .ok (.iload_n 1, 1) := by decide +kernel
theorem dX9_readNumber_35 : decode cX9_readNumber 35 = .ok (.goto 20, 3) := by decide +kernel
theorem dX9_readNumber_38 : decode cX9_readNumber 38 = .ok (.bipush 10, 2) := by decide +kernel
theorem dX9_readNumber_40 : decode cX9_readNumber 40 = .ok (.iload_n 1, 1) := by decide +kernel
theorem dX9_readNumber_41 : decode cX9_readNumber 41 = .ok (.imul, 1) := by decide +kernel
theorem dX9_readNumber_42 : decode cX9_readNumber 42 = .ok (.aload_n 0, 1) := by decide +kernel
theorem dX9_readNumber_43 : decode cX9_readNumber 43 = .ok (.getfield 7, 3) := by decide +kernel
theorem dX9_readNumber_46 : decode cX9_readNumber 46 = .ok (.aload_n 0, 1) := by decide +kernel
theorem dX9_readNumber_47 : decode cX9_readNumber 47 = .ok (.getfield 64, 3) := by decide +kernel
theorem dX9_readNumber_50 : decode cX9_readNumber 50 = .ok (.iaload, 1) := by decide +kernel
theorem dX9_readNumber_51 : decode cX9_readNumber 51 = .ok (.iadd, 1) := by decide +kernel
theorem dX9_readNumber_52 : decode cX9_readNumber 52 = .ok (.bipush 48, 2) := by decide +kernel
theorem dX9_readNumber_54 : decode cX9_readNumber 54 = .ok (.isub, 1) := by decide +kernel
theorem dX9_readNumber_55 : decode cX9_readNumber 55 = .ok (.istore_n 1, 1) := by decide +kernel
theorem dX9_readNumber_56 : decode cX9_readNumber 56 = .ok (.aload_n 0, 1) := by decide +kernel
theorem dX9_readNumber_57 : decode cX9_readNumber 57 = .ok (.dup, 1) := by decide +kernel
theorem dX9_readNumber_58 : decode cX9_readNumber 58 = .ok (.getfield 64, 3) := by decide +kernel
theorem dX9_readNumber_61 : decode cX9_readNumber 61 = .ok (.iconst 1, 1) := by decide +kernel
theorem dX9_readNumber_62 : decode cX9_readNumber 62 = .ok (.iadd, 1) := by decide +kernel
theorem dX9_readNumber_63 : decode cX9_readNumber 63 = .ok (.putfield 64, 3) := by decide +kernel
theorem dX9_readNumber_66 : decode cX9_readNumber 66 = .ok (.goto (-64), 3) := by decide +kernel
theorem dX9_readNumber_69 : decode cX9_readNumber 69 = .ok (.aload_n 0, 1) := by decide +kernel
theorem dX9_readNumber_70 : decode cX9_readNumber 70 = .ok (.iload_n 1, 1) := by decide +kernel
theorem dX9_readNumber_71 : decode cX9_readNumber 71 = .ok (.bipush 99, 2) := by decide +kernel
theorem dX9_readNumber_73 : decode cX9_readNumber 73 = .ok (.if_icmp .gt 30, 3) := by decide +kernel
theorem dX9_readNumber_76 : decode cX9_readNumber 76 = .ok (.aload_n 0, 1) := by decide +kernel
theorem dX9_readNumber_77 : decode cX9_readNumber 77 = .ok (.getfield 64, 3) := by decide +kernel
theorem dX9_readNumber_80 : decode cX9_readNumber 80 = .ok (.aload_n 0, 1) := by decide +kernel
theorem dX9_readNumber_81 : decode cX9_readNumber 81 = .ok (.getfield 74, 3) := by decide +kernel
theorem dX9_readNumber_84 : decode cX9_readNumber 84 = .ok (.isub, 1) := by decide +kernel
theorem dX9_readNumber_85 : decode cX9_readNumber 85 = .ok (.iconst 1, 1) := by decide +kernel
theorem dX9_readNumber_86 : decode cX9_readNumber 86 = .ok (.if_icmp .le 21, 3) := by decide +kernel
theorem dX9_readNumber_89 : decode cX9_readNumber 89 = .ok (.aload_n 0, 1) := by decide +kernel
theorem dX9_readNumber_90 : decode cX9_readNumber 90 = .ok (.getfield 7, 3) := by decide +kernel
theorem dX9_readNumber_93 : decode cX9_readNumber 93 = .ok (.aload_n 0, 1) := by decide +kernel
theorem dX9_readNumber_94 : decode cX9_readNumber 94 = .ok (.getfield 74, 3) := by decide +kernel
theorem dX9_readNumber_97 : decode cX9_readNumber 97 = .ok (.iaload, 1) := by decide +kernel
theorem dX9_readNumber_98 : decode cX9_readNumber 98 = .ok (.bipush 48, 2) := by decide +kernel
theorem dX9_readNumber_100 : decode cX9_readNumber 100 = .ok (.if_icmp .ne 7, 3) := by decide +kernel
theorem dX9_readNumber_103 : decode cX9_readNumber 103 = .ok (.iconst 4, 1) := by decide +kernel
theorem dX9_readNumber_104 : decode cX9_readNumber 104 = .ok (.goto 4, 3) := by decide +kernel
theorem dX9_readNumber_107 : decode cX9_readNumber 107 = .ok (.iconst 2, 1) := by decide +kernel
theorem dX9_readNumber_108 : decode cX9_readNumber 108 = .ok (.putfield 77, 3) := by decide +kernel
theorem dX9_readNumber_111 : decode cX9_readNumber 111 = .ok (.aload_n 0, 1) := by decide +kernel
theorem dX9_readNumber_112 : decode cX9_readNumber 112 = .ok (.iload_n 1, 1) := by decide +kernel
theorem dX9_readNumber_113 : decode cX9_readNumber 113 = .ok (.putfield 67, 3) := by decide +kernel
theorem dX9_readNumber_116 : decode cX9_readNumber 116 = .ok (.return_, 1) := by decide +kernel
set_option maxRecDepth 20000 in
theorem ggX9_reads_X9_isLetter : GoodIn wsX9_reads wsX9_isLetter := goodIn_r _ [9, 10, 11, 12, 13, 8, 14] (by decide +kernel) (by decide +kernel)
set_option maxRecDepth 20000 in
theorem gX9_reads_X9_isLetter : GoodIn wsX9_reads (va_wsS RX9 70 yX9_isLetter wsX9_isLetter) := goodIn_app (goodIn_of _ (by decide +kernel)) ggX9_reads_X9_isLetter
set_option maxRecDepth 20000 in
theorem ggX9_reads_X9_readLetters : GoodIn wsX9_reads wsX9_readLetters := goodIn_r _ [18, 3, 1, 19, 2, 4, 5, 6, 7, 8, 9, 10, 11, 12, 13, 14, 29, 30, 31, 32, 33, 34, 35, 36, 37, 38, 39, 40, 41, 42, 43, 44, 45, 46, 47, 48, 49, 50] (by decide +kernel) (by decide +kernel)
set_option maxRecDepth 20000 in
theorem gX9_reads_X9_readLetters : GoodIn wsX9_reads (wsV RX9 83 RX9 yX9_readLetters wsX9_readLetters) := goodIn_app (goodIn_of _ (by decide +kernel)) ggX9_reads_X9_readLetters
set_option maxRecDepth 20000 in
theorem ggX9_reads_X9_isFigure : GoodIn wsX9_reads wsX9_isFigure := goodIn_r _ [22, 23, 24, 12, 13, 8, 14] (by decide +kernel) (by decide +kernel)
set_option maxRecDepth 20000 in
theorem gX9_reads_X9_isFigure : GoodIn wsX9_reads (va_wsS RX9 80 yX9_isFigure wsX9_isFigure) := goodIn_app (goodIn_of _ (by decide +kernel)) ggX9_reads_X9_isFigure
set_option maxRecDepth 20000 in
theorem ggX9_reads_X9_readNumber : GoodIn wsX9_reads wsX9_readNumber := goodIn_r _ [28, 1, 2, 3, 4, 5, 19, 20, 21, 8, 22, 23, 24, 12, 13, 14, 29, 30, 31, 32, 33, 34, 35, 36, 37, 38, 39, 40, 41, 42, 43, 44, 45, 46, 47, 48, 49, 50] (by decide +kernel) (by decide +kernel)
set_option maxRecDepth 20000 in
theorem gX9_reads_X9_readNumber : GoodIn wsX9_reads (wsV RX9 86 RX9 yX9_readNumber wsX9_readNumber) := goodIn_app (goodIn_of _ (by decide +kernel)) ggX9_reads_X9_readNumber
theorem dX9_reads_0 : decode cX9_reads 0 = .ok (.aload_n 0, 1) := by decide +kernel
theorem dX9_reads_1 : decode cX9_reads 1 = .ok (.getfield 64, 3) := by decide +kernel
theorem dX9_reads_4 : decode cX9_reads 4 = .ok (.aload_n 0, 1) := by decide +kernel
theorem dX9_reads_5 : decode cX9_reads 5 = .ok (.getfield 52, 3) := by decide +kernel
theorem dX9_reads_8 : decode cX9_reads 8 = .ok (.if_icmp .ge 30, 3) := by decide +kernel
theorem dX9_reads_11 : decode cX9_reads 11 = .ok (.aload_n 0, 1) := by decide +kernel
theorem dX9_reads_12 : decode cX9_reads 12 = .ok (.getfield 7, 3) := by decide +kernel
theorem dX9_reads_15 : decode cX9_reads 15 = .ok (.aload_n 0, 1) := by decide +kernel
theorem dX9_reads_16 : decode cX9_reads 16 = .ok (.getfield 64, 3) := by decide +kernel
theorem dX9_reads_19 : decode cX9_reads 19 = .ok (.iaload, 1) := by decide +kernel
theorem dX9_reads_20 : decode cX9_reads 20 = .ok (.bipush 32, 2) := by decide +kernel
theorem dX9_reads_22 : decode cX9_reads 22 = .ok (.if_icmp .ne 16, 3) := by decide +kernel
theorem dX9_reads_25 : decode cX9_reads 25 = .ok (.aload_n 0, 1) := by decide +kernel
theorem dX9_reads_26 : decode cX9_reads 26 = .ok (.dup, 1) := by decide +kernel
theorem dX9_reads_27 : decode cX9_reads 27 = .ok (.getfield 64, 3) := by decide +kernel
theorem dX9_reads_30 : decode cX9_reads 30 = .ok (.iconst 1, 1) := by decide +kernel
theorem dX9_reads_31 : decode cX9_reads 31 = .ok (.iadd, 1) := by decide +kernel
theorem dX9_reads_32 : decode cX9_reads 32 = .ok (.putfield 64, 3) := by decide +kernel
theorem dX9_reads_35 : decode cX9_reads 35 = .ok (.goto (-35), 3) := by decide +kernel
theorem dX9_reads_38 : decode cX9_reads 38 = .ok (.aload_n 0, 1) := by decide +kernel
theorem dX9_reads_39 : decode cX9_reads 39 = .ok (.aload_n 0, 1) := by decide +kernel
theorem dX9_reads_40 : decode cX9_reads 40 = .ok (.getfield 64, 3) := by decide +kernel
theorem dX9_reads_43 : decode cX9_reads 43 = .ok (.putfield 74, 3) := by decide +kernel
theorem dX9_reads_46 : decode cX9_reads 46 = .ok (.aload_n 0, 1) := by decide +kernel
theorem dX9_reads_47 : decode cX9_reads 47 = .ok (.getfield 64, 3) := by decide +kernel
theorem dX9_reads_50 : decode cX9_reads 50 = .ok (.aload_n 0, 1) := by decide +kernel
theorem dX9_reads_51 : decode cX9_reads 51 = .ok (.getfield 52, 3) := by decide +kernel
theorem dX9_reads_54 : decode cX9_reads 54 = .ok (.if_icmp .ne 11, 3) := by decide +kernel
theorem dX9_reads_57 : decode cX9_reads 57 = .ok (.aload_n 0, 1) := by decide +kernel
theorem dX9_reads_58 : decode cX9_reads 58 = .ok (.iconst 0, 1) := by decide +kernel
theorem dX9_reads_59 : decode cX9_reads 59 = .ok (.putfield 77, 3) := by decide +kernel
theorem dX9_reads_62 : decode cX9_reads 62 = .ok (.goto 92, 3) := by decide +kernel
theorem dX9_reads_65 : decode cX9_reads 65 = .ok (.aload_n 0, 1) := by decide +kernel
theorem dX9_reads_66 : decode cX9_reads 66 = .ok (.getfield 7, 3) := by decide +kernel
theorem dX9_reads_69 : decode cX9_reads 69 = .ok (.aload_n 0, 1) := by decide +kernel
theorem dX9_reads_70 : decode cX9_reads 70 = .ok (.getfield 64, 3) := by decide +kernel
theorem dX9_reads_73 : decode cX9_reads 73 = .ok (.iaload, 1) := by decide +kernel
theorem dX9_reads_74 : decode cX9_reads 74 = .ok (.invokestatic 70, 3) := by decide +kernel
theorem dX9_reads_77 : decode cX9_reads 77 = .ok (.ifCond .eq 10, 3) := by decide +kernel
theorem dX9_reads_80 : decode cX9_reads 80 = .ok (.aload_n 0, 1) := by decide +kernel
theorem dX9_reads_81 : decode cX9_reads 81 = .ok (.invokevirtual 83, 3) := by decide +kernel
theorem dX9_reads_84 : decode cX9_reads 84 = .ok (.goto 70, 3) := by decide +kernel
theorem dX9_reads_87 : decode cX9_reads 87 = .ok (.aload_n 0, 1) := by decide +kernel
theorem dX9_reads_88 : decode cX9_reads 88 = .ok (.getfield 7, 3) := by decide +kernel
theorem dX9_reads_91 : decode cX9_reads 91 = .ok (.aload_n 0, 1) := by decide +kernel
theorem dX9_reads_92 : decode cX9_reads 92 = .ok (.getfield 64, 3) := by decide +kernel
theorem dX9_reads_95 : decode cX9_reads 95 = .ok (.iaload, 1) := by decide +kernel
theorem dX9_reads_96 : decode cX9_reads 96 = .ok (.invokestatic 80, 3) := by decide +kernel
theorem dX9_reads_99 : decode cX9_reads 99 = .ok (.ifCond .eq 10, 3) := by decide +kernel
theorem dX9_reads_102 : decode cX9_reads 102 = .ok (.aload_n 0, 1) := by decide +kernel
theorem dX9_reads_103 : decode cX9_reads 103 = .ok (.invokevirtual 86, 3) := by decide +kernel
theorem dX9_reads_106 : decode cX9_reads 106 = .ok (.goto 48, 3) := by decide +kernel
theorem dX9_reads_109 : decode cX9_reads 109 = .ok (.aload_n 0, 1) := by decide +kernel
theorem dX9_reads_110 : decode cX9_reads 110 = .ok (.aload_n 0, 1) := by decide +kernel
theorem dX9_reads_111 : decode cX9_reads 111 = .ok (.getfield 7, 3) := by decide +kernel
theorem dX9_reads_114 : decode cX9_reads 114 = .ok (.aload_n 0, 1) := by decide +kernel
theorem dX9_reads_115 : decode cX9_reads 115 = .ok (.getfield 64, 3) := by decide +kernel
theorem dX9_reads_118 : decode cX9_reads 118 = .ok (.iaload, 1) := by decide +kernel
theorem dX9_reads_119 : decode cX9_reads 119 = .ok (.bipush 59, 2) := by decide +kernel
theorem dX9_reads_121 : decode cX9_reads 121 = .ok (.if_icmp .ne 7, 3) := by decide +kernel
theorem dX9_reads_124 : decode cX9_reads 124 = .ok (.iconst 3, 1) := by decide +kernel
theorem dX9_reads_125 : decode cX9_reads 125 = .ok (.goto 4, 3) := by decide +kernel
theorem dX9_reads_128 : decode cX9_reads 128 = .ok (.iconst 4, 1) := by decide +kernel
theorem dX9_reads_129 : decode cX9_reads 129 = .ok (.putfield 77, 3) := by decide +kernel
theorem dX9_reads_132 : decode cX9_reads 132 = .ok (.aload_n 0, 1) := by decide +kernel
theorem dX9_reads_133 : decode cX9_reads 133 = .ok (.dup, 1) := by decide +kernel
theorem dX9_reads_134 : decode cX9_reads 134 = .ok (.getfield 64, 3) := by decide +kernel
theorem dX9_reads_137 : decode cX9_reads 137 = .ok (.aload_n 0, 1) := by decide +kernel
theorem dX9_reads_138 : decode cX9_reads 138 = .ok (.getfield 77, 3) := by decide +kernel
theorem dX9_reads_141 : decode cX9_reads 141 = .ok (.iconst 3, 1) := by decide +kernel
theorem dX9_reads_142 : decode cX9_reads 142 = .ok (.if_icmp .ne 7, 3) := by decide +kernel
theorem dX9_reads_145 : decode cX9_reads 145 = .ok (.iconst 1, 1) := by decide +kernel
theorem dX9_reads_146 : decode cX9_reads 146 = .ok (.goto 4, 3) := by decide +kernel
theorem dX9_reads_149 : decode cX9_reads 149 = .ok (.iconst 0, 1) := by decide +kernel
theorem dX9_reads_150 : decode cX9_reads 150 = .ok (.iadd, 1) := by decide +kernel
theorem dX9_reads_151 : decode cX9_reads 151 = .ok (.putfield 64, 3) := by decide +kernel
theorem dX9_reads_154 : decode cX9_reads 154 = .ok (.return_, 1) := by decide +kernel
set_option maxRecDepth 20000 in
theorem ggX9_number_X9_reads : GoodIn wsX9_number wsX9_reads := goodIn_r _ [7, 8, 9, 10, 11, 1, 12, 13, 6, 14, 15, 16, 17, 18, 19, 20, 21, 22, 23, 2, 24, 25, 26, 27, 28, 29, 30, 31, 32, 33, 34, 35, 36, 37, 38, 39, 40, 41, 42, 43, 44, 45, 46, 47, 48, 49, 50, 51, 52, 53, 54] (by decide +kernel) (by decide +kernel)
set_option maxRecDepth 20000 in
theorem gX9_number_X9_reads : GoodIn wsX9_number (wsV RX9 89 RX9 yX9_reads wsX9_reads) := goodIn_app (goodIn_of _ (by decide +kernel)) ggX9_number_X9_reads
set_option maxRecDepth 20000 in
theorem ggX9_number_X9_in : GoodIn wsX9_number wsX9_in := goodIn_r _ [19] (by decide +kernel) (by decide +kernel)
set_option maxRecDepth 20000 in
theorem gX9_number_X9_in : GoodIn wsX9_number (va_wsS RX9 48 yX9_in wsX9_in) := goodIn_app (goodIn_of _ (by decide +kernel)) ggX9_number_X9_in
theorem dX9_number_0 : decode cX9_number 0 = .ok (.aload_n 0, 1) := by decide +kernel
theorem dX9_number_1 : decode cX9_number 1 = .ok (.invokevirtual 89, 3) := by decide +kernel
theorem dX9_number_4 : decode cX9_number 4 = .ok (.aload_n 0, 1) := by decide +kernel
theorem dX9_number_5 : decode cX9_number 5 = .ok (.getfield 77, 3) := by decide +kernel
theorem dX9_number_8 : decode cX9_number 8 = .ok (.iconst 2, 1) := by decide +kernel
theorem dX9_number_9 : decode cX9_number 9 = .ok (.if_icmp .ne 22, 3) := by decide +kernel
theorem dX9_number_12 : decode cX9_number 12 = .ok (.aload_n 0, 1) := by decide +kernel
theorem dX9_number_13 : decode cX9_number 13 = .ok (.getfield 67, 3) := by decide +kernel
theorem dX9_number_16 : decode cX9_number 16 = .ok (.i2l, 1) := by decide +kernel
theorem dX9_number_17 : decode cX9_number 17 = .ok (.iload_n 1, 1) := by decide +kernel
theorem dX9_number_18 : decode cX9_number 18 = .ok (.i2l, 1) := by decide +kernel
theorem dX9_number_19 : decode cX9_number 19 = .ok (.iload_n 2, 1) := by decide +kernel
theorem dX9_number_20 : decode cX9_number 20 = .ok (.i2l, 1) := by decide +kernel
theorem dX9_number_21 : decode cX9_number 21 = .ok (.invokestatic 48, 3) := by decide +kernel
theorem dX9_number_24 : decode cX9_number 24 = .ok (.ifCond .eq 7, 3) := by decide +kernel
theorem dX9_number_27 : decode cX9_number 27 = .ok (.iconst 1, 1) := by decide +kernel
theorem dX9_number_28 : decode cX9_number 28 = .ok (.goto 4, 3) := by decide +kernel
theorem dX9_number_31 : decode cX9_number 31 = .ok (.iconst 0, 1) := by decide +kernel
theorem dX9_number_32 : decode cX9_number 32 = .ok (.ireturn, 1) := by decide +kernel
set_option maxRecDepth 20000 in
theorem ggX9_ends_X9_reads : GoodIn wsX9_ends wsX9_reads := goodIn_r _ [6, 7, 8, 9, 10, 1, 11, 12, 5, 13, 14, 15, 16, 17, 18, 19, 20, 21, 22, 23, 24, 25, 26, 27, 28, 29, 30, 31, 32, 33, 34, 35, 36, 37, 38, 39, 40, 41, 42, 43, 44, 45, 46, 47, 48, 49, 50, 51, 52, 53, 54] (by decide +kernel) (by decide +kernel)
set_option maxRecDepth 20000 in
theorem gX9_ends_X9_reads : GoodIn wsX9_ends (wsV RX9 89 RX9 yX9_reads wsX9_reads) := goodIn_app (goodIn_of _ (by decide +kernel)) ggX9_ends_X9_reads
theorem dX9_ends_0 : decode cX9_ends 0 = .ok (.aload_n 0, 1) := by decide +kernel
theorem dX9_ends_1 : decode cX9_ends 1 = .ok (.invokevirtual 89, 3) := by decide +kernel
theorem dX9_ends_4 : decode cX9_ends 4 = .ok (.aload_n 0, 1) := by decide +kernel
theorem dX9_ends_5 : decode cX9_ends 5 = .ok (.getfield 77, 3) := by decide +kernel
theorem dX9_ends_8 : decode cX9_ends 8 = .ok (.iconst 3, 1) := by decide +kernel
theorem dX9_ends_9 : decode cX9_ends 9 = .ok (.if_icmp .ne 7, 3) := by decide +kernel
theorem dX9_ends_12 : decode cX9_ends 12 = .ok (.iconst 1, 1) := by decide +kernel
theorem dX9_ends_13 : decode cX9_ends 13 = .ok (.goto 4, 3) := by decide +kernel
theorem dX9_ends_16 : decode cX9_ends 16 = .ok (.iconst 0, 1) := by decide +kernel
theorem dX9_ends_17 : decode cX9_ends 17 = .ok (.ireturn, 1) := by decide +kernel
set_option maxRecDepth 20000 in
theorem ggX9_readTenant_X9_number : GoodIn wsX9_readTenant wsX9_number := goodIn_r _ [7, 8, 2, 9, 10, 11, 6, 12, 13, 14, 15, 16, 17, 18, 19, 20, 21, 22, 23, 24, 25, 26, 27, 28, 29, 30, 31, 32, 33, 34, 35, 36, 37, 42, 43, 44, 45, 46, 47, 48, 49, 50, 51, 52, 53, 54, 55, 56, 57, 58, 59, 60, 61, 62, 63] (by decide +kernel) (by decide +kernel)
set_option maxRecDepth 20000 in
theorem gX9_readTenant_X9_number : GoodIn wsX9_readTenant (wsV RX9 92 RX9 yX9_number wsX9_number) := goodIn_app (goodIn_of _ (by decide +kernel)) ggX9_readTenant_X9_number
set_option maxRecDepth 20000 in
theorem ggX9_readTenant_X9_ends : GoodIn wsX9_readTenant wsX9_ends := goodIn_r _ [41, 8, 9, 10, 11, 6, 12, 13, 14, 15, 16, 17, 18, 19, 20, 21, 22, 23, 24, 25, 26, 27, 28, 2, 29, 30, 31, 32, 33, 34, 35, 36, 37, 42, 43, 44, 45, 46, 47, 48, 49, 50, 51, 52, 53, 54, 55, 56, 57, 58, 59, 60, 61, 62, 63] (by decide +kernel) (by decide +kernel)
set_option maxRecDepth 20000 in
theorem gX9_readTenant_X9_ends : GoodIn wsX9_readTenant (wsV RX9 96 RX9 yX9_ends wsX9_ends) := goodIn_app (goodIn_of _ (by decide +kernel)) ggX9_readTenant_X9_ends
theorem dX9_readTenant_0 : decode cX9_readTenant 0 = .ok (.aload_n 0, 1) := by decide +kernel
theorem dX9_readTenant_1 : decode cX9_readTenant 1 = .ok (.getfield 13, 3) := by decide +kernel
theorem dX9_readTenant_4 : decode cX9_readTenant 4 = .ok (.iconst 1, 1) := by decide +kernel
theorem dX9_readTenant_5 : decode cX9_readTenant 5 = .ok (.iaload, 1) := by decide +kernel
theorem dX9_readTenant_6 : decode cX9_readTenant 6 = .ok (.bipush 6, 2) := by decide +kernel
theorem dX9_readTenant_8 : decode cX9_readTenant 8 = .ok (.if_icmp .ne 5, 3) := by decide +kernel
theorem dX9_readTenant_11 : decode cX9_readTenant 11 = .ok (.iconst 0, 1) := by decide +kernel
theorem dX9_readTenant_12 : decode cX9_readTenant 12 = .ok (.ireturn, 1) := by decide +kernel
theorem dX9_readTenant_13 : decode cX9_readTenant 13 = .ok (.bipush 9, 2) := by decide +kernel
theorem dX9_readTenant_15 : decode cX9_readTenant 15 = .ok (.iconst 5, 1) := by decide +kernel
theorem dX9_readTenant_16 : decode cX9_readTenant 16 = .ok (.aload_n 0, 1) := by decide +kernel
theorem dX9_readTenant_17 : decode cX9_readTenant 17 = .ok (.getfield 13, 3) := by decide +kernel
theorem dX9_readTenant_20 : decode cX9_readTenant 20 = .ok (.iconst 1, 1) := by decide +kernel
theorem dX9_readTenant_21 : decode cX9_readTenant 21 = .ok (.iaload, 1) := by decide +kernel
theorem dX9_readTenant_22 : decode cX9_readTenant 22 = .ok (.imul, 1) := by decide +kernel
theorem dX9_readTenant_23 : decode cX9_readTenant 23 = .ok (.iadd, 1) := by decide +kernel
theorem dX9_readTenant_24 : decode cX9_readTenant 24 = .ok (.istore_n 1, 1) := by decide +kernel
theorem dX9_readTenant_25 : decode cX9_readTenant 25 = .ok (.iconst 0, 1) := by decide +kernel
theorem dX9_readTenant_26 : decode cX9_readTenant 26 = .ok (.istore_n 2, 1) := by decide +kernel
theorem dX9_readTenant_27 : decode cX9_readTenant 27 = .ok (.iload_n 2, 1) := by decide +kernel
theorem dX9_readTenant_28 : decode cX9_readTenant 28 = .ok (.iconst 4, 1) := by decide +kernel
theorem dX9_readTenant_29 : decode cX9_readTenant 29 = .ok (.if_icmp .ge 52, 3) := by decide +kernel
theorem dX9_readTenant_32 : decode cX9_readTenant 32 = .ok (.aload_n 0, 1) := by decide +kernel
theorem dX9_readTenant_33 : decode cX9_readTenant 33 = .ok (.iload_n 2, 1) := by decide +kernel
theorem dX9_readTenant_34 : decode cX9_readTenant 34 = .ok (.iconst 3, 1) := by decide +kernel
theorem dX9_readTenant_35 : decode cX9_readTenant 35 = .ok (.if_icmp .ne 7, 3) := by decide +kernel
theorem dX9_readTenant_38 : decode cX9_readTenant 38 = .ok (.iconst 1, 1) := by decide +kernel
theorem dX9_readTenant_39 : decode cX9_readTenant 39 = .ok (.goto 4, 3) := by decide +kernel
theorem dX9_readTenant_42 : decode cX9_readTenant 42 = .ok (.iconst 0, 1) := by decide +kernel
theorem dX9_readTenant_43 : decode cX9_readTenant 43 = .ok (.iload_n 2, 1) := by decide +kernel
theorem dX9_readTenant_44 : decode cX9_readTenant 44 = .ok (.iconst 2, 1) := by decide +kernel
theorem dX9_readTenant_45 : decode cX9_readTenant 45 = .ok (.if_icmp .ge 8, 3) := by decide +kernel
theorem dX9_readTenant_48 : decode cX9_readTenant 48 = .ok (.bipush 12, 2) := by decide +kernel
theorem dX9_readTenant_50 : decode cX9_readTenant 50 = .ok (.goto 5, 3) := by decide +kernel
theorem dX9_readTenant_53 : decode cX9_readTenant 53 = .ok (.bipush 9, 2) := by decide +kernel
theorem dX9_readTenant_55 : decode cX9_readTenant 55 = .ok (.invokevirtual 92, 3) := by decide +kernel
theorem dX9_readTenant_58 : decode cX9_readTenant 58 = .ok (.ifCond .ne 5, 3) := by decide +kernel
theorem dX9_readTenant_61 : decode cX9_readTenant 61 = .ok (.iconst 0, 1) := by decide +kernel
theorem dX9_readTenant_62 : decode cX9_readTenant 62 = .ok (.ireturn, 1) := by decide +kernel
theorem dX9_readTenant_63 : decode cX9_readTenant 63 = .ok (.aload_n 0, 1) := by decide +kernel
theorem dX9_readTenant_64 : decode cX9_readTenant 64 = .ok (.getfield 13, 3) := by decide +kernel
theorem dX9_readTenant_67 : decode cX9_readTenant 67 = .ok (.iload_n 1, 1) := by decide +kernel
theorem dX9_readTenant_68 : decode cX9_readTenant 68 = .ok (.iload_n 2, 1) := by decide +kernel
theorem dX9_readTenant_69 : decode cX9_readTenant 69 = .ok (.iadd, 1) := by decide +kernel
theorem dX9_readTenant_70 : decode cX9_readTenant 70 = .ok (.aload_n 0, 1) := by decide +kernel
theorem dX9_readTenant_71 : decode cX9_readTenant 71 = .ok (.getfield 67, 3) := by decide +kernel
theorem dX9_readTenant_74 : decode cX9_readTenant 74 = .ok (.iastore, 1) := by decide +kernel
theorem dX9_readTenant_75 : decode cX9_readTenant 75 = .ok (.iinc 2 1, 3) := by decide +kernel
theorem dX9_readTenant_78 : decode cX9_readTenant 78 = .ok (.goto (-51), 3) := by decide +kernel
theorem dX9_readTenant_81 : decode cX9_readTenant 81 = .ok (.aload_n 0, 1) := by decide +kernel
theorem dX9_readTenant_82 : decode cX9_readTenant 82 = .ok (.getfield 13, 3) := by decide +kernel
theorem dX9_readTenant_85 : decode cX9_readTenant 85 = .ok (.iconst 1, 1) := by decide +kernel
theorem dX9_readTenant_86 : decode cX9_readTenant 86 = .ok (.dup2, 1) := by decide +kernel
theorem dX9_readTenant_87 : decode cX9_readTenant 87 = .ok (.iaload, 1) := by decide +kernel
theorem dX9_readTenant_88 : decode cX9_readTenant 88 = .ok (.iconst 1, 1) := by decide +kernel
theorem dX9_readTenant_89 : decode cX9_readTenant 89 = .ok (.iadd, 1) := by decide +kernel
theorem dX9_readTenant_90 : decode cX9_readTenant 90 = .ok (.iastore, 1) := by decide +kernel
theorem dX9_readTenant_91 : decode cX9_readTenant 91 = .ok (.aload_n 0, 1) := by decide +kernel
theorem dX9_readTenant_92 : decode cX9_readTenant 92 = .ok (.invokevirtual 96, 3) := by decide +kernel
theorem dX9_readTenant_95 : decode cX9_readTenant 95 = .ok (.ireturn, 1) := by decide +kernel
set_option maxRecDepth 20000 in
theorem ggX9_readHears_X9_number : GoodIn wsX9_readHears wsX9_number := goodIn_r _ [7, 8, 2, 9, 10, 11, 6, 12, 13, 14, 15, 16, 17, 18, 19, 20, 21, 22, 23, 24, 25, 26, 27, 28, 29, 30, 31, 32, 33, 34, 35, 36, 37, 42, 43, 44, 45, 46, 47, 48, 49, 50, 51, 52, 53, 54, 55, 56, 57, 58, 59, 60, 61, 62, 63] (by decide +kernel) (by decide +kernel)
set_option maxRecDepth 20000 in
theorem gX9_readHears_X9_number : GoodIn wsX9_readHears (wsV RX9 92 RX9 yX9_number wsX9_number) := goodIn_app (goodIn_of _ (by decide +kernel)) ggX9_readHears_X9_number
set_option maxRecDepth 20000 in
theorem ggX9_readHears_X9_ends : GoodIn wsX9_readHears wsX9_ends := goodIn_r _ [41, 8, 9, 10, 11, 6, 12, 13, 14, 15, 16, 17, 18, 19, 20, 21, 22, 23, 24, 25, 26, 27, 28, 2, 29, 30, 31, 32, 33, 34, 35, 36, 37, 42, 43, 44, 45, 46, 47, 48, 49, 50, 51, 52, 53, 54, 55, 56, 57, 58, 59, 60, 61, 62, 63] (by decide +kernel) (by decide +kernel)
set_option maxRecDepth 20000 in
theorem gX9_readHears_X9_ends : GoodIn wsX9_readHears (wsV RX9 96 RX9 yX9_ends wsX9_ends) := goodIn_app (goodIn_of _ (by decide +kernel)) ggX9_readHears_X9_ends
theorem dX9_readHears_0 : decode cX9_readHears 0 = .ok (.aload_n 0, 1) := by decide +kernel
theorem dX9_readHears_1 : decode cX9_readHears 1 = .ok (.iconst 0, 1) := by decide +kernel
theorem dX9_readHears_2 : decode cX9_readHears 2 = .ok (.aload_n 0, 1) := by decide +kernel
theorem dX9_readHears_3 : decode cX9_readHears 3 = .ok (.getfield 13, 3) := by decide +kernel
theorem dX9_readHears_6 : decode cX9_readHears 6 = .ok (.iconst 1, 1) := by decide +kernel
theorem dX9_readHears_7 : decode cX9_readHears 7 = .ok (.iaload, 1) := by decide +kernel
theorem dX9_readHears_8 : decode cX9_readHears 8 = .ok (.iconst 1, 1) := by decide +kernel
theorem dX9_readHears_9 : decode cX9_readHears 9 = .ok (.isub, 1) := by decide +kernel
theorem dX9_readHears_10 : decode cX9_readHears 10 = .ok (.invokevirtual 92, 3) := by decide +kernel
theorem dX9_readHears_13 : decode cX9_readHears 13 = .ok (.ifCond .ne 5, 3) := by decide +kernel
theorem dX9_readHears_16 : decode cX9_readHears 16 = .ok (.iconst 0, 1) := by decide +kernel
theorem dX9_readHears_17 : decode cX9_readHears 17 = .ok (.ireturn, 1) := by decide +kernel
theorem dX9_readHears_18 : decode cX9_readHears 18 = .ok (.aload_n 0, 1) := by decide +kernel
theorem dX9_readHears_19 : decode cX9_readHears 19 = .ok (.getfield 67, 3) := by decide +kernel
theorem dX9_readHears_22 : decode cX9_readHears 22 = .ok (.istore_n 1, 1) := by decide +kernel
theorem dX9_readHears_23 : decode cX9_readHears 23 = .ok (.aload_n 0, 1) := by decide +kernel
theorem dX9_readHears_24 : decode cX9_readHears 24 = .ok (.iconst 0, 1) := by decide +kernel
theorem dX9_readHears_25 : decode cX9_readHears 25 = .ok (.aload_n 0, 1) := by decide +kernel
theorem dX9_readHears_26 : decode cX9_readHears 26 = .ok (.getfield 13, 3) := by decide +kernel
theorem dX9_readHears_29 : decode cX9_readHears 29 = .ok (.iconst 1, 1) := by decide +kernel
theorem dX9_readHears_30 : decode cX9_readHears 30 = .ok (.iaload, 1) := by decide +kernel
theorem dX9_readHears_31 : decode cX9_readHears 31 = .ok (.iconst 1, 1) := by decide +kernel
theorem dX9_readHears_32 : decode cX9_readHears 32 = .ok (.isub, 1) := by decide +kernel
theorem dX9_readHears_33 : decode cX9_readHears 33 = .ok (.invokevirtual 92, 3) := by decide +kernel
theorem dX9_readHears_36 : decode cX9_readHears 36 = .ok (.ifCond .eq 11, 3) := by decide +kernel
theorem dX9_readHears_39 : decode cX9_readHears 39 = .ok (.aload_n 0, 1) := by decide +kernel
theorem dX9_readHears_40 : decode cX9_readHears 40 = .ok (.getfield 67, 3) := by decide +kernel
theorem dX9_readHears_43 : decode cX9_readHears 43 = .ok (.iload_n 1, 1) := by decide +kernel
theorem dX9_readHears_44 : decode cX9_readHears 44 = .ok (.if_icmp .ne 5, 3) := by decide +kernel
theorem dX9_readHears_47 : decode cX9_readHears 47 = .ok (.iconst 0, 1) := by decide +kernel
theorem dX9_readHears_48 : decode cX9_readHears 48 = .ok (.ireturn, 1) := by decide +kernel
theorem dX9_readHears_49 : decode cX9_readHears 49 = .ok (.aload_n 0, 1) := by decide +kernel
theorem dX9_readHears_50 : decode cX9_readHears 50 = .ok (.getfield 13, 3) := by decide +kernel
theorem dX9_readHears_53 : decode cX9_readHears 53 = .ok (.bipush 9, 2) := by decide +kernel
theorem dX9_readHears_55 : decode cX9_readHears 55 = .ok (.iconst 5, 1) := by decide +kernel
theorem dX9_readHears_56 : decode cX9_readHears 56 = .ok (.iload_n 1, 1) := by decide +kernel
theorem dX9_readHears_57 : decode cX9_readHears 57 = .ok (.imul, 1) := by decide +kernel
theorem dX9_readHears_58 : decode cX9_readHears 58 = .ok (.iadd, 1) := by decide +kernel
theorem dX9_readHears_59 : decode cX9_readHears 59 = .ok (.iconst 4, 1) := by decide +kernel
theorem dX9_readHears_60 : decode cX9_readHears 60 = .ok (.iadd, 1) := by decide +kernel
theorem dX9_readHears_61 : decode cX9_readHears 61 = .ok (.dup2, 1) := by decide +kernel
theorem dX9_readHears_62 : decode cX9_readHears 62 = .ok (.iaload, 1) := by decide +kernel
theorem dX9_readHears_63 : decode cX9_readHears 63 = .ok (.iconst 1, 1) := by decide +kernel
theorem dX9_readHears_64 : decode cX9_readHears 64 = .ok (.aload_n 0, 1) := by decide +kernel
theorem dX9_readHears_65 : decode cX9_readHears 65 = .ok (.getfield 67, 3) := by decide +kernel
theorem dX9_readHears_68 : decode cX9_readHears 68 = .ok (.ishl, 1) := by decide +kernel
theorem dX9_readHears_69 : decode cX9_readHears 69 = .ok (.ior, 1) := by decide +kernel
theorem dX9_readHears_70 : decode cX9_readHears 70 = .ok (.iastore, 1) := by decide +kernel
theorem dX9_readHears_71 : decode cX9_readHears 71 = .ok (.aload_n 0, 1) := by decide +kernel
theorem dX9_readHears_72 : decode cX9_readHears 72 = .ok (.invokevirtual 96, 3) := by decide +kernel
theorem dX9_readHears_75 : decode cX9_readHears 75 = .ok (.ireturn, 1) := by decide +kernel
set_option maxRecDepth 20000 in
theorem ggX9_readItem_X9_number : GoodIn wsX9_readItem wsX9_number := goodIn_r _ [8, 1, 2, 9, 10, 11, 7, 12, 13, 14, 15, 16, 17, 18, 19, 20, 21, 22, 23, 24, 25, 26, 27, 28, 29, 30, 31, 32, 33, 34, 35, 36, 37, 50, 51, 52, 53, 54, 55, 56, 57, 58, 59, 60, 61, 62, 63, 64, 65, 66, 67, 68, 69, 70, 71] (by decide +kernel) (by decide +kernel)
set_option maxRecDepth 20000 in
theorem gX9_readItem_X9_number : GoodIn wsX9_readItem (wsV RX9 92 RX9 yX9_number wsX9_number) := goodIn_app (goodIn_of _ (by decide +kernel)) ggX9_readItem_X9_number
set_option maxRecDepth 20000 in
theorem ggX9_readItem_X9_ends : GoodIn wsX9_readItem wsX9_ends := goodIn_r _ [41, 1, 9, 10, 11, 7, 12, 13, 14, 15, 16, 17, 18, 19, 20, 21, 22, 23, 24, 25, 26, 27, 28, 2, 29, 30, 31, 32, 33, 34, 35, 36, 37, 50, 51, 52, 53, 54, 55, 56, 57, 58, 59, 60, 61, 62, 63, 64, 65, 66, 67, 68, 69, 70, 71] (by decide +kernel) (by decide +kernel)
set_option maxRecDepth 20000 in
theorem gX9_readItem_X9_ends : GoodIn wsX9_readItem (wsV RX9 96 RX9 yX9_ends wsX9_ends) := goodIn_app (goodIn_of _ (by decide +kernel)) ggX9_readItem_X9_ends
set_option maxRecDepth 20000 in
theorem ggX9_readItem_X9_readTenant : GoodIn wsX9_readItem wsX9_readTenant := goodIn_r _ [45, 3, 2, 4, 5, 6, 7, 8, 1, 9, 10, 11, 12, 13, 14, 15, 16, 17, 18, 19, 20, 21, 22, 23, 24, 25, 26, 27, 28, 29, 30, 31, 32, 33, 34, 35, 36, 37, 38, 39, 40, 41, 50, 51, 52, 53, 54, 55, 56, 57, 58, 59, 60, 61, 62, 63, 64, 65, 66, 67, 68, 69, 70, 71] (by decide +kernel) (by decide +kernel)
set_option maxRecDepth 20000 in
theorem gX9_readItem_X9_readTenant : GoodIn wsX9_readItem (wsV RX9 100 RX9 yX9_readTenant wsX9_readTenant) := goodIn_app (goodIn_of _ (by decide +kernel)) ggX9_readItem_X9_readTenant
set_option maxRecDepth 20000 in
theorem ggX9_readItem_X9_readHears : GoodIn wsX9_readItem wsX9_readHears := goodIn_r _ [49, 3, 2, 4, 5, 6, 7, 8, 1, 9, 10, 11, 12, 13, 14, 15, 16, 17, 18, 19, 20, 21, 22, 23, 24, 25, 26, 27, 28, 29, 30, 31, 32, 33, 34, 35, 36, 37, 38, 39, 40, 41, 50, 51, 52, 53, 54, 55, 56, 57, 58, 59, 60, 61, 62, 63, 64, 65, 66, 67, 68, 69, 70, 71] (by decide +kernel) (by decide +kernel)
set_option maxRecDepth 20000 in
theorem gX9_readItem_X9_readHears : GoodIn wsX9_readItem (wsV RX9 103 RX9 yX9_readHears wsX9_readHears) := goodIn_app (goodIn_of _ (by decide +kernel)) ggX9_readItem_X9_readHears
theorem dX9_readItem_0 : decode cX9_readItem 0 = .ok (.aload_n 0, 1) := by decide +kernel
theorem dX9_readItem_1 : decode cX9_readItem 1 = .ok (.getfield 77, 3) := by decide +kernel
theorem dX9_readItem_4 : decode cX9_readItem 4 = .ok (.iconst 1, 1) := by decide +kernel
theorem dX9_readItem_5 : decode cX9_readItem 5 = .ok (.if_icmp .eq 5, 3) := by decide +kernel
theorem dX9_readItem_8 : decode cX9_readItem 8 = .ok (.iconst 0, 1) := by decide +kernel
theorem dX9_readItem_9 : decode cX9_readItem 9 = .ok (.ireturn, 1) := by decide +kernel
theorem dX9_readItem_10 : decode cX9_readItem 10 = .ok (.aload_n 0, 1) := by decide +kernel
theorem dX9_readItem_11 : decode cX9_readItem 11 = .ok (.getfield 67, 3) := by decide +kernel
theorem dX9_readItem_14 : decode cX9_readItem 14 = .ok (.lookupswitch 99 #[(104, 94), (114, 34), (116, 89)], 34) := by decide +kernel
theorem dX9_readItem_48 : decode cX9_readItem 48 = .ok (.aload_n 0, 1) := by decide +kernel
theorem dX9_readItem_49 : decode cX9_readItem 49 = .ok (.getfield 13, 3) := by decide +kernel
theorem dX9_readItem_52 : decode cX9_readItem 52 = .ok (.iconst 0, 1) := by decide +kernel
theorem dX9_readItem_53 : decode cX9_readItem 53 = .ok (.iaload, 1) := by decide +kernel
theorem dX9_readItem_54 : decode cX9_readItem 54 = .ok (.bipush 6, 2) := by decide +kernel
theorem dX9_readItem_56 : decode cX9_readItem 56 = .ok (.if_icmp .eq 13, 3) := by decide +kernel
theorem dX9_readItem_59 : decode cX9_readItem 59 = .ok (.aload_n 0, 1) := by decide +kernel
theorem dX9_readItem_60 : decode cX9_readItem 60 = .ok (.iconst 0, 1) := by decide +kernel
theorem dX9_readItem_61 : decode cX9_readItem 61 = .ok (.bipush 24, 2) := by decide +kernel
theorem dX9_readItem_63 : decode cX9_readItem 63 = .ok (.invokevirtual 92, 3) := by decide +kernel
theorem dX9_readItem_66 : decode cX9_readItem 66 = .ok (.ifCond .ne 5, 3) := by decide +kernel
theorem dX9_readItem_69 : decode cX9_readItem 69 = .ok (.iconst 0, 1) := by decide +kernel
theorem dX9_readItem_70 : decode cX9_readItem 70 = .ok (.ireturn, 1) := by decide +kernel
theorem dX9_readItem_71 : decode cX9_readItem 71 = .ok (.aload_n 0, 1) := by decide +kernel
theorem dX9_readItem_72 : decode cX9_readItem 72 = .ok (.getfield 13, 3) := by decide +kernel
theorem dX9_readItem_75 : decode cX9_readItem 75 = .ok (.iconst 3, 1) := by decide +kernel
theorem dX9_readItem_76 : decode cX9_readItem 76 = .ok (.aload_n 0, 1) := by decide +kernel
theorem dX9_readItem_77 : decode cX9_readItem 77 = .ok (.getfield 13, 3) := by decide +kernel
theorem dX9_readItem_80 : decode cX9_readItem 80 = .ok (.iconst 0, 1) := by decide +kernel
theorem dX9_readItem_81 : decode cX9_readItem 81 = .ok (.iaload, 1) := by decide +kernel
theorem dX9_readItem_82 : decode cX9_readItem 82 = .ok (.iadd, 1) := by decide +kernel
theorem dX9_readItem_83 : decode cX9_readItem 83 = .ok (.aload_n 0, 1) := by decide +kernel
theorem dX9_readItem_84 : decode cX9_readItem 84 = .ok (.getfield 67, 3) := by decide +kernel
theorem dX9_readItem_87 : decode cX9_readItem 87 = .ok (.iastore, 1) := by decide +kernel
theorem dX9_readItem_88 : decode cX9_readItem 88 = .ok (.aload_n 0, 1) := by decide +kernel
theorem dX9_readItem_89 : decode cX9_readItem 89 = .ok (.getfield 13, 3) := by decide +kernel
theorem dX9_readItem_92 : decode cX9_readItem 92 = .ok (.iconst 0, 1) := by decide +kernel
theorem dX9_readItem_93 : decode cX9_readItem 93 = .ok (.dup2, 1) := by decide +kernel
theorem dX9_readItem_94 : decode cX9_readItem 94 = .ok (.iaload, 1) := by decide +kernel
theorem dX9_readItem_95 : decode cX9_readItem 95 = .ok (.iconst 1, 1) := by decide +kernel
theorem dX9_readItem_96 : decode cX9_readItem 96 = .ok (.iadd, 1) := by decide +kernel
theorem dX9_readItem_97 : decode cX9_readItem 97 = .ok (.iastore, 1) := by decide +kernel
theorem dX9_readItem_98 : decode cX9_readItem 98 = .ok (.aload_n 0, 1) := by decide +kernel
theorem dX9_readItem_99 : decode cX9_readItem 99 = .ok (.invokevirtual 96, 3) := by decide +kernel
theorem dX9_readItem_102 : decode cX9_readItem 102 = .ok (.ireturn, 1) := by decide +kernel
theorem dX9_readItem_103 : decode cX9_readItem 103 = .ok (.aload_n 0, 1) := by decide +kernel
theorem dX9_readItem_104 : decode cX9_readItem 104 = .ok (.invokevirtual 100, 3) := by decide +kernel
theorem dX9_readItem_107 : decode cX9_readItem 107 = .ok (.ireturn, 1) := by decide +kernel
theorem dX9_readItem_108 : decode cX9_readItem 108 = .ok (.aload_n 0, 1) := by decide +kernel
theorem dX9_readItem_109 : decode cX9_readItem 109 = .ok (.invokevirtual 103, 3) := by decide +kernel
theorem dX9_readItem_112 : decode cX9_readItem 112 = .ok (.ireturn, 1) := by decide +kernel
theorem dX9_readItem_113 : decode cX9_readItem 113 = .ok (.aload_n 0, 1) := by decide +kernel
theorem dX9_readItem_114 : decode cX9_readItem 114 = .ok (.getfield 13, 3) := by decide +kernel
theorem dX9_readItem_117 : decode cX9_readItem 117 = .ok (.iconst 2, 1) := by decide +kernel
theorem dX9_readItem_118 : decode cX9_readItem 118 = .ok (.iaload, 1) := by decide +kernel
theorem dX9_readItem_119 : decode cX9_readItem 119 = .ok (.iconst 5, 1) := by decide +kernel
theorem dX9_readItem_120 : decode cX9_readItem 120 = .ok (.if_icmp .eq 13, 3) := by decide +kernel
theorem dX9_readItem_123 : decode cX9_readItem 123 = .ok (.aload_n 0, 1) := by decide +kernel
theorem dX9_readItem_124 : decode cX9_readItem 124 = .ok (.iconst 0, 1) := by decide +kernel
theorem dX9_readItem_125 : decode cX9_readItem 125 = .ok (.bipush 63, 2) := by decide +kernel
theorem dX9_readItem_127 : decode cX9_readItem 127 = .ok (.invokevirtual 92, 3) := by decide +kernel
theorem dX9_readItem_130 : decode cX9_readItem 130 = .ok (.ifCond .ne 5, 3) := by decide +kernel
theorem dX9_readItem_133 : decode cX9_readItem 133 = .ok (.iconst 0, 1) := by decide +kernel
theorem dX9_readItem_134 : decode cX9_readItem 134 = .ok (.ireturn, 1) := by decide +kernel
theorem dX9_readItem_135 : decode cX9_readItem 135 = .ok (.aload_n 0, 1) := by decide +kernel
theorem dX9_readItem_136 : decode cX9_readItem 136 = .ok (.getfield 13, 3) := by decide +kernel
theorem dX9_readItem_139 : decode cX9_readItem 139 = .ok (.bipush 39, 2) := by decide +kernel
theorem dX9_readItem_141 : decode cX9_readItem 141 = .ok (.aload_n 0, 1) := by decide +kernel
theorem dX9_readItem_142 : decode cX9_readItem 142 = .ok (.getfield 13, 3) := by decide +kernel
theorem dX9_readItem_145 : decode cX9_readItem 145 = .ok (.iconst 2, 1) := by decide +kernel
theorem dX9_readItem_146 : decode cX9_readItem 146 = .ok (.iaload, 1) := by decide +kernel
theorem dX9_readItem_147 : decode cX9_readItem 147 = .ok (.iadd, 1) := by decide +kernel
theorem dX9_readItem_148 : decode cX9_readItem 148 = .ok (.aload_n 0, 1) := by decide +kernel
theorem dX9_readItem_149 : decode cX9_readItem 149 = .ok (.getfield 67, 3) := by decide +kernel
theorem dX9_readItem_152 : decode cX9_readItem 152 = .ok (.iastore, 1) := by decide +kernel
theorem dX9_readItem_153 : decode cX9_readItem 153 = .ok (.aload_n 0, 1) := by decide +kernel
theorem dX9_readItem_154 : decode cX9_readItem 154 = .ok (.getfield 13, 3) := by decide +kernel
theorem dX9_readItem_157 : decode cX9_readItem 157 = .ok (.iconst 2, 1) := by decide +kernel
theorem dX9_readItem_158 : decode cX9_readItem 158 = .ok (.dup2, 1) := by decide +kernel
theorem dX9_readItem_159 : decode cX9_readItem 159 = .ok (.iaload, 1) := by decide +kernel
theorem dX9_readItem_160 : decode cX9_readItem 160 = .ok (.iconst 1, 1) := by decide +kernel
theorem dX9_readItem_161 : decode cX9_readItem 161 = .ok (.iadd, 1) := by decide +kernel
theorem dX9_readItem_162 : decode cX9_readItem 162 = .ok (.iastore, 1) := by decide +kernel
theorem dX9_readItem_163 : decode cX9_readItem 163 = .ok (.aload_n 0, 1) := by decide +kernel
theorem dX9_readItem_164 : decode cX9_readItem 164 = .ok (.invokevirtual 96, 3) := by decide +kernel
theorem dX9_readItem_167 : decode cX9_readItem 167 = .ok (.ireturn, 1) := by decide +kernel
set_option maxRecDepth 20000 in
theorem ggX9_house_X9_reads : GoodIn wsX9_house wsX9_reads := goodIn_r _ [11, 2, 5, 12, 4, 3, 13, 14, 10, 15, 16, 17, 18, 19, 20, 21, 22, 23, 24, 25, 26, 27, 28, 29, 30, 31, 32, 33, 34, 63, 64, 65, 66, 67, 68, 69, 70, 71, 72, 73, 74, 75, 76, 77, 78, 79, 80, 81, 82, 83, 84] (by decide +kernel) (by decide +kernel)
set_option maxRecDepth 20000 in
theorem gX9_house_X9_reads : GoodIn wsX9_house (wsV RX9 89 RX9 yX9_reads wsX9_reads) := goodIn_app (goodIn_of _ (by decide +kernel)) ggX9_house_X9_reads
set_option maxRecDepth 20000 in
theorem ggX9_house_X9_readItem : GoodIn wsX9_house wsX9_readItem := goodIn_r _ [38, 3, 25, 1, 39, 40, 41, 10, 42, 7, 8, 9, 11, 2, 5, 12, 4, 13, 14, 15, 16, 17, 18, 19, 20, 21, 22, 23, 24, 26, 27, 28, 29, 30, 31, 32, 33, 34, 43, 44, 45, 46, 47, 48, 49, 50, 51, 52, 53, 54, 63, 64, 65, 66, 67, 68, 69, 70, 71, 72, 73, 74, 75, 76, 77, 78, 79, 80, 81, 82, 83, 84] (by decide +kernel) (by decide +kernel)
set_option maxRecDepth 20000 in
theorem gX9_house_X9_readItem : GoodIn wsX9_house (wsV RX9 106 RX9 yX9_readItem wsX9_readItem) := goodIn_app (goodIn_of _ (by decide +kernel)) ggX9_house_X9_readItem
set_option maxRecDepth 20000 in
theorem ggX9_house_X9_anew : GoodIn wsX9_house wsX9_anew := goodIn_r _ [58, 59, 60, 61, 62, 63, 64, 65, 66, 67, 68, 69, 70, 71, 72, 73, 74, 75, 76, 77, 78, 79, 80, 81, 82, 83, 84] (by decide +kernel) (by decide +kernel)
set_option maxRecDepth 20000 in
theorem gX9_house_X9_anew : GoodIn wsX9_house (wsV RX9 43 RX9 yX9_anew wsX9_anew) := goodIn_app (goodIn_of _ (by decide +kernel)) ggX9_house_X9_anew
theorem dX9_house_0 : decode cX9_house 0 = .ok (.iconst 0, 1) := by decide +kernel
theorem dX9_house_1 : decode cX9_house 1 = .ok (.istore_n 1, 1) := by decide +kernel
theorem dX9_house_2 : decode cX9_house 2 = .ok (.iload_n 1, 1) := by decide +kernel
theorem dX9_house_3 : decode cX9_house 3 = .ok (.bipush 44, 2) := by decide +kernel
theorem dX9_house_5 : decode cX9_house 5 = .ok (.if_icmp .ge 16, 3) := by decide +kernel
theorem dX9_house_8 : decode cX9_house 8 = .ok (.aload_n 0, 1) := by decide +kernel
theorem dX9_house_9 : decode cX9_house 9 = .ok (.getfield 13, 3) := by decide +kernel
theorem dX9_house_12 : decode cX9_house 12 = .ok (.iload_n 1, 1) := by decide +kernel
theorem dX9_house_13 : decode cX9_house 13 = .ok (.iconst 0, 1) := by decide +kernel
theorem dX9_house_14 : decode cX9_house 14 = .ok (.iastore, 1) := by decide +kernel
theorem dX9_house_15 : decode cX9_house 15 = .ok (.iinc 1 1, 3) := by decide +kernel
theorem dX9_house_18 : decode cX9_house 18 = .ok (.goto (-16), 3) := by decide +kernel
theorem dX9_house_21 : decode cX9_house 21 = .ok (.aload_n 0, 1) := by decide +kernel
theorem dX9_house_22 : decode cX9_house 22 = .ok (.iconst 0, 1) := by decide +kernel
theorem dX9_house_23 : decode cX9_house 23 = .ok (.putfield 64, 3) := by decide +kernel
theorem dX9_house_26 : decode cX9_house 26 = .ok (.iconst 0, 1) := by decide +kernel
theorem dX9_house_27 : decode cX9_house 27 = .ok (.istore_n 1, 1) := by decide +kernel
theorem dX9_house_28 : decode cX9_house 28 = .ok (.aload_n 0, 1) := by decide +kernel
theorem dX9_house_29 : decode cX9_house 29 = .ok (.invokevirtual 89, 3) := by decide +kernel
theorem dX9_house_32 : decode cX9_house 32 = .ok (.aload_n 0, 1) := by decide +kernel
theorem dX9_house_33 : decode cX9_house 33 = .ok (.getfield 77, 3) := by decide +kernel
theorem dX9_house_36 : decode cX9_house 36 = .ok (.ifCond .eq 28, 3) := by decide +kernel
theorem dX9_house_39 : decode cX9_house 39 = .ok (.aload_n 0, 1) := by decide +kernel
theorem dX9_house_40 : decode cX9_house 40 = .ok (.invokevirtual 106, 3) := by decide +kernel
theorem dX9_house_43 : decode cX9_house 43 = .ok (.ifCond .ne 11, 3) := by decide +kernel
theorem dX9_house_46 : decode cX9_house 46 = .ok (.bipush (-10), 2) := by decide +kernel
theorem dX9_house_48 : decode cX9_house 48 = .ok (.aload_n 0, 1) := by decide +kernel
theorem dX9_house_49 : decode cX9_house 49 = .ok (.getfield 74, 3) := by decide +kernel
theorem dX9_house_52 : decode cX9_house 52 = .ok (.isub, 1) := by decide +kernel
theorem dX9_house_53 : decode cX9_house 53 = .ok (.ireturn, 1) := by decide +kernel
theorem dX9_house_54 : decode cX9_house 54 = .ok (.iinc 1 1, 3) := by decide +kernel
theorem dX9_house_57 : decode cX9_house 57 = .ok (.aload_n 0, 1) := by decide +kernel
theorem dX9_house_58 : decode cX9_house 58 = .ok (.invokevirtual 89, 3) := by decide +kernel
theorem dX9_house_61 : decode cX9_house 61 = .ok (.goto (-29), 3) := by decide +kernel
theorem dX9_house_64 : decode cX9_house 64 = .ok (.aload_n 0, 1) := by decide +kernel
theorem dX9_house_65 : decode cX9_house 65 = .ok (.iconst 0, 1) := by decide +kernel
theorem dX9_house_66 : decode cX9_house 66 = .ok (.putfield 52, 3) := by decide +kernel
theorem dX9_house_69 : decode cX9_house 69 = .ok (.iconst 0, 1) := by decide +kernel
theorem dX9_house_70 : decode cX9_house 70 = .ok (.istore_n 2, 1) := by decide +kernel
theorem dX9_house_71 : decode cX9_house 71 = .ok (.iload_n 2, 1) := by decide +kernel
theorem dX9_house_72 : decode cX9_house 72 = .ok (.bipush 44, 2) := by decide +kernel
theorem dX9_house_74 : decode cX9_house 74 = .ok (.if_icmp .ge 21, 3) := by decide +kernel
theorem dX9_house_77 : decode cX9_house 77 = .ok (.aload_n 0, 1) := by decide +kernel
theorem dX9_house_78 : decode cX9_house 78 = .ok (.getfield 16, 3) := by decide +kernel
theorem dX9_house_81 : decode cX9_house 81 = .ok (.iload_n 2, 1) := by decide +kernel
theorem dX9_house_82 : decode cX9_house 82 = .ok (.aload_n 0, 1) := by decide +kernel
theorem dX9_house_83 : decode cX9_house 83 = .ok (.getfield 13, 3) := by decide +kernel
theorem dX9_house_86 : decode cX9_house 86 = .ok (.iload_n 2, 1) := by decide +kernel
theorem dX9_house_87 : decode cX9_house 87 = .ok (.iaload, 1) := by decide +kernel
theorem dX9_house_88 : decode cX9_house 88 = .ok (.iastore, 1) := by decide +kernel
theorem dX9_house_89 : decode cX9_house 89 = .ok (.iinc 2 1, 3) := by decide +kernel
theorem dX9_house_92 : decode cX9_house 92 = .ok (.goto (-21), 3) := by decide +kernel
theorem dX9_house_95 : decode cX9_house 95 = .ok (.aload_n 0, 1) := by decide +kernel
theorem dX9_house_96 : decode cX9_house 96 = .ok (.invokevirtual 43, 3) := by decide +kernel
theorem dX9_house_99 : decode cX9_house 99 = .ok (.iload_n 1, 1) := by decide +kernel
theorem dX9_house_100 : decode cX9_house 100 = .ok (.ireturn, 1) := by decide +kernel
theorem dX9_anew_0 : decode cX9_anew 0 = .ok (.iconst 0, 1) := by decide +kernel
theorem dX9_anew_1 : decode cX9_anew 1 = .ok (.istore_n 1, 1) := by decide +kernel
theorem dX9_anew_2 : decode cX9_anew 2 = .ok (.iload_n 1, 1) := by decide +kernel
theorem dX9_anew_3 : decode cX9_anew 3 = .ok (.bipush 25, 2) := by decide +kernel
theorem dX9_anew_5 : decode cX9_anew 5 = .ok (.if_icmp .ge 28, 3) := by decide +kernel
theorem dX9_anew_8 : decode cX9_anew 8 = .ok (.aload_n 0, 1) := by decide +kernel
theorem dX9_anew_9 : decode cX9_anew 9 = .ok (.getfield 19, 3) := by decide +kernel
theorem dX9_anew_12 : decode cX9_anew 12 = .ok (.iload_n 1, 1) := by decide +kernel

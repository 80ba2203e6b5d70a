theorem dX9_spare_0 : decode cX9_spare 0 = .ok (.aload_n 0, 1) := by decide +kernel
theorem dX9_spare_1 : decode cX9_spare 1 = .ok (.iload_n 1, 1) := by decide +kernel
theorem dX9_spare_2 : decode cX9_spare 2 = .ok (.invokevirtual 137, 3) := by decide +kernel
theorem dX9_spare_5 : decode cX9_spare 5 = .ok (.ifCond .eq 11, 3) := by decide +kernel
theorem dX9_spare_8 : decode cX9_spare 8 = .ok (.aload_n 0, 1) := by decide +kernel
theorem dX9_spare_9 : decode cX9_spare 9 = .ok (.iload_n 1, 1) := by decide +kernel
theorem dX9_spare_10 : decode cX9_spare 10 = .ok (.invokevirtual 181, 3) := by decide +kernel
theorem dX9_spare_13 : decode cX9_spare 13 = .ok (.goto 5, 3) := by decide +kernel
theorem dX9_spare_16 : decode cX9_spare 16 = .ok (.ldc 184, 2) := by decide +kernel
theorem dX9_spare_18 : decode cX9_spare 18 = .ok (.ireturn, 1) := by decide +kernel
set_option maxRecDepth 20000 in
theorem ggX9_rest_X9_in : GoodIn wsX9_rest wsX9_in := goodIn_r _ [5] (by decide +kernel) (by decide +kernel)
set_option maxRecDepth 20000 in
theorem gX9_rest_X9_in : GoodIn wsX9_rest (va_wsS RX9 48 yX9_in wsX9_in) := goodIn_app (goodIn_of _ (by decide +kernel)) ggX9_rest_X9_in
set_option maxRecDepth 20000 in
theorem ggX9_rest_X9_spareOf : GoodIn wsX9_rest wsX9_spareOf := goodIn_r _ [9, 10, 11, 12, 4, 13, 14, 15, 16, 17, 18, 1, 19, 20, 21, 22, 23, 24, 25, 26, 27, 28, 29, 30, 31, 32, 33, 34, 35, 36, 37, 38, 39, 40, 41, 42, 43, 44, 45, 46, 47, 48] (by decide +kernel) (by decide +kernel)
set_option maxRecDepth 20000 in
theorem gX9_rest_X9_spareOf : GoodIn wsX9_rest (wsV RX9 181 RX9 yX9_spareOf wsX9_spareOf) := goodIn_app (goodIn_of _ (by decide +kernel)) ggX9_rest_X9_spareOf
theorem dX9_rest_0 : decode cX9_rest 0 = .ok (.iload_n 1, 1) := by decide +kernel
theorem dX9_rest_1 : decode cX9_rest 1 = .ok (.i2l, 1) := by decide +kernel
theorem dX9_rest_2 : decode cX9_rest 2 = .ok (.lconst 0, 1) := by decide +kernel
theorem dX9_rest_3 : decode cX9_rest 3 = .ok (.lconst 1, 1) := by decide +kernel
theorem dX9_rest_4 : decode cX9_rest 4 = .ok (.invokestatic 48, 3) := by decide +kernel
theorem dX9_rest_7 : decode cX9_rest 7 = .ok (.ifCond .ne 5, 3) := by decide +kernel
theorem dX9_rest_10 : decode cX9_rest 10 = .ok (.iconst (-1), 1) := by decide +kernel
theorem dX9_rest_11 : decode cX9_rest 11 = .ok (.ireturn, 1) := by decide +kernel
theorem dX9_rest_12 : decode cX9_rest 12 = .ok (.iconst 0, 1) := by decide +kernel
theorem dX9_rest_13 : decode cX9_rest 13 = .ok (.istore_n 2, 1) := by decide +kernel
theorem dX9_rest_14 : decode cX9_rest 14 = .ok (.iload_n 2, 1) := by decide +kernel
theorem dX9_rest_15 : decode cX9_rest 15 = .ok (.bipush 10, 2) := by decide +kernel
theorem dX9_rest_17 : decode cX9_rest 17 = .ok (.if_icmp .ge 118, 3) := by decide +kernel
theorem dX9_rest_20 : decode cX9_rest 20 = .ok (.iconst 0, 1) := by decide +kernel
theorem dX9_rest_21 : decode cX9_rest 21 = .ok (.istore_n 3, 1) := by decide +kernel
theorem dX9_rest_22 : decode cX9_rest 22 = .ok (.iconst 0, 1) := by decide +kernel
theorem dX9_rest_23 : decode cX9_rest 23 = .ok (.istore 4, 2) := by decide +kernel
theorem dX9_rest_25 : decode cX9_rest 25 = .ok (.iconst 0, 1) := by decide +kernel
theorem dX9_rest_26 : decode cX9_rest 26 = .ok (.istore 5, 2) := by decide +kernel
theorem dX9_rest_28 : decode cX9_rest 28 = .ok (.iload 5, 2) := by decide +kernel
theorem dX9_rest_30 : decode cX9_rest 30 = .ok (.aload_n 0, 1) := by decide +kernel
theorem dX9_rest_31 : decode cX9_rest 31 = .ok (.getfield 16, 3) := by decide +kernel
theorem dX9_rest_34 : decode cX9_rest 34 = .ok (.iconst 1, 1) := by decide +kernel
theorem dX9_rest_35 : decode cX9_rest 35 = .ok (.iaload, 1) := by decide +kernel
theorem dX9_rest_36 : decode cX9_rest 36 = .ok (.if_icmp .ge 76, 3) := by decide +kernel
theorem dX9_rest_39 : decode cX9_rest 39 = .ok (.aload_n 0, 1) := by decide +kernel
theorem dX9_rest_40 : decode cX9_rest 40 = .ok (.getfield 16, 3) := by decide +kernel
theorem dX9_rest_43 : decode cX9_rest 43 = .ok (.bipush 9, 2) := by decide +kernel
theorem dX9_rest_45 : decode cX9_rest 45 = .ok (.iconst 5, 1) := by decide +kernel
theorem dX9_rest_46 : decode cX9_rest 46 = .ok (.iload 5, 2) := by decide +kernel
theorem dX9_rest_48 : decode cX9_rest 48 = .ok (.imul, 1) := by decide +kernel
theorem dX9_rest_49 : decode cX9_rest 49 = .ok (.iadd, 1) := by decide +kernel
theorem dX9_rest_50 : decode cX9_rest 50 = .ok (.iconst 3, 1) := by decide +kernel
theorem dX9_rest_51 : decode cX9_rest 51 = .ok (.iadd, 1) := by decide +kernel
theorem dX9_rest_52 : decode cX9_rest 52 = .ok (.iaload, 1) := by decide +kernel
theorem dX9_rest_53 : decode cX9_rest 53 = .ok (.istore 6, 2) := by decide +kernel
theorem dX9_rest_55 : decode cX9_rest 55 = .ok (.aload_n 0, 1) := by decide +kernel
theorem dX9_rest_56 : decode cX9_rest 56 = .ok (.iload 5, 2) := by decide +kernel
theorem dX9_rest_58 : decode cX9_rest 58 = .ok (.invokevirtual 181, 3) := by decide +kernel
theorem dX9_rest_61 : decode cX9_rest 61 = .ok (.istore 7, 2) := by decide +kernel
theorem dX9_rest_63 : decode cX9_rest 63 = .ok (.iload_n 3, 1) := by decide +kernel
theorem dX9_rest_64 : decode cX9_rest 64 = .ok (.iload 7, 2) := by decide +kernel
theorem dX9_rest_66 : decode cX9_rest 66 = .ok (.ifCond .le 14, 3) := by decide +kernel
theorem dX9_rest_69 : decode cX9_rest 69 = .ok (.iload 6, 2) := by decide +kernel
theorem dX9_rest_71 : decode cX9_rest 71 = .ok (.iload_n 2, 1) := by decide +kernel
theorem dX9_rest_72 : decode cX9_rest 72 = .ok (.if_icmp .gt 8, 3) := by decide +kernel
theorem dX9_rest_75 : decode cX9_rest 75 = .ok (.iload 7, 2) := by decide +kernel
theorem dX9_rest_77 : decode cX9_rest 77 = .ok (.goto 4, 3) := by decide +kernel
theorem dX9_rest_80 : decode cX9_rest 80 = .ok (.iconst 0, 1) := by decide +kernel
theorem dX9_rest_81 : decode cX9_rest 81 = .ok (.iadd, 1) := by decide +kernel
theorem dX9_rest_82 : decode cX9_rest 82 = .ok (.istore_n 3, 1) := by decide +kernel
theorem dX9_rest_83 : decode cX9_rest 83 = .ok (.iload 4, 2) := by decide +kernel
theorem dX9_rest_85 : decode cX9_rest 85 = .ok (.iload 7, 2) := by decide +kernel
theorem dX9_rest_87 : decode cX9_rest 87 = .ok (.ifCond .ge 15, 3) := by decide +kernel
theorem dX9_rest_90 : decode cX9_rest 90 = .ok (.iload 6, 2) := by decide +kernel
theorem dX9_rest_92 : decode cX9_rest 92 = .ok (.iload_n 2, 1) := by decide +kernel
theorem dX9_rest_93 : decode cX9_rest 93 = .ok (.if_icmp .lt 9, 3) := by decide +kernel
theorem dX9_rest_96 : decode cX9_rest 96 = .ok (.iload 7, 2) := by decide +kernel
theorem dX9_rest_98 : decode cX9_rest 98 = .ok (.ineg, 1) := by decide +kernel
theorem dX9_rest_99 : decode cX9_rest 99 = .ok (.goto 4, 3) := by decide +kernel
theorem dX9_rest_102 : decode cX9_rest 102 = .ok (.iconst 0, 1) := by decide +kernel
theorem dX9_rest_103 : decode cX9_rest 103 = .ok (.iadd, 1) := by decide +kernel
theorem dX9_rest_104 : decode cX9_rest 104 = .ok (.istore 4, 2) := by decide +kernel
theorem dX9_rest_106 : decode cX9_rest 106 = .ok (.iinc 5 1, 3) := by decide +kernel
theorem dX9_rest_109 : decode cX9_rest 109 = .ok (.goto (-81), 3) := by decide +kernel
theorem dX9_rest_112 : decode cX9_rest 112 = .ok (.iload_n 3, 1) := by decide +kernel
theorem dX9_rest_113 : decode cX9_rest 113 = .ok (.iload 4, 2) := by decide +kernel
theorem dX9_rest_115 : decode cX9_rest 115 = .ok (.if_icmp .lt 14, 3) := by decide +kernel
theorem dX9_rest_118 : decode cX9_rest 118 = .ok (.iload_n 1, 1) := by decide +kernel
theorem dX9_rest_119 : decode cX9_rest 119 = .ok (.ifCond .ne 7, 3) := by decide +kernel
theorem dX9_rest_122 : decode cX9_rest 122 = .ok (.iload_n 2, 1) := by decide +kernel
theorem dX9_rest_123 : decode cX9_rest 123 = .ok (.goto 5, 3) := by decide +kernel
theorem dX9_rest_126 : decode cX9_rest 126 = .ok (.iload 4, 2) := by decide +kernel
theorem dX9_rest_128 : decode cX9_rest 128 = .ok (.ireturn, 1) := by decide +kernel
theorem dX9_rest_129 : decode cX9_rest 129 = .ok (.iinc 2 1, 3) := by decide +kernel
theorem dX9_rest_132 : decode cX9_rest 132 = .ok (.goto (-118), 3) := by decide +kernel
theorem dX9_rest_135 : decode cX9_rest 135 = .ok (.iload_n 1, 1) := by decide +kernel
theorem dX9_rest_136 : decode cX9_rest 136 = .ok (.ifCond .ne 8, 3) := by decide +kernel
theorem dX9_rest_139 : decode cX9_rest 139 = .ok (.bipush 10, 2) := by decide +kernel
theorem dX9_rest_141 : decode cX9_rest 141 = .ok (.goto 4, 3) := by decide +kernel
theorem dX9_rest_144 : decode cX9_rest 144 = .ok (.iconst 0, 1) := by decide +kernel
theorem dX9_rest_145 : decode cX9_rest 145 = .ok (.ireturn, 1) := by decide +kernel
set_option maxRecDepth 20000 in
theorem ggX9_lacksOf_X9_debts : GoodIn wsX9_lacksOf wsX9_debts := goodIn_r _ [6, 1, 7, 8, 9, 5, 10, 11, 12, 13, 14, 15, 16, 17, 18, 19, 20, 21, 22, 23, 24, 25, 26, 27, 28, 29, 30, 31, 32, 33] (by decide +kernel) (by decide +kernel)
set_option maxRecDepth 20000 in
theorem gX9_lacksOf_X9_debts : GoodIn wsX9_lacksOf (wsV RX9 158 RX9 yX9_debts wsX9_debts) := goodIn_app (goodIn_of _ (by decide +kernel)) ggX9_lacksOf_X9_debts
set_option maxRecDepth 20000 in
theorem ggX9_lacksOf_X9_debt : GoodIn wsX9_lacksOf wsX9_debt := goodIn_r _ [10, 11, 12, 13, 14, 15, 16, 17, 18, 19, 20, 21, 22, 23, 24, 25, 26, 27, 28, 29, 30, 31, 32, 33] (by decide +kernel) (by decide +kernel)
set_option maxRecDepth 20000 in
theorem gX9_lacksOf_X9_debt : GoodIn wsX9_lacksOf (wsV RX9 155 RX9 yX9_debt wsX9_debt) := goodIn_app (goodIn_of _ (by decide +kernel)) ggX9_lacksOf_X9_debt
theorem dX9_lacksOf_0 : decode cX9_lacksOf 0 = .ok (.aload_n 0, 1) := by decide +kernel
theorem dX9_lacksOf_1 : decode cX9_lacksOf 1 = .ok (.invokevirtual 158, 3) := by decide +kernel
theorem dX9_lacksOf_4 : decode cX9_lacksOf 4 = .ok (.istore_n 2, 1) := by decide +kernel
theorem dX9_lacksOf_5 : decode cX9_lacksOf 5 = .ok (.iload_n 2, 1) := by decide +kernel
theorem dX9_lacksOf_6 : decode cX9_lacksOf 6 = .ok (.aload_n 0, 1) := by decide +kernel
theorem dX9_lacksOf_7 : decode cX9_lacksOf 7 = .ok (.getfield 16, 3) := by decide +kernel
theorem dX9_lacksOf_10 : decode cX9_lacksOf 10 = .ok (.iconst 1, 1) := by decide +kernel
theorem dX9_lacksOf_11 : decode cX9_lacksOf 11 = .ok (.iaload, 1) := by decide +kernel
theorem dX9_lacksOf_12 : decode cX9_lacksOf 12 = .ok (.idiv, 1) := by decide +kernel
theorem dX9_lacksOf_13 : decode cX9_lacksOf 13 = .ok (.iload_n 1, 1) := by decide +kernel
theorem dX9_lacksOf_14 : decode cX9_lacksOf 14 = .ok (.iload_n 2, 1) := by decide +kernel
theorem dX9_lacksOf_15 : decode cX9_lacksOf 15 = .ok (.aload_n 0, 1) := by decide +kernel
theorem dX9_lacksOf_16 : decode cX9_lacksOf 16 = .ok (.getfield 16, 3) := by decide +kernel
theorem dX9_lacksOf_19 : decode cX9_lacksOf 19 = .ok (.iconst 1, 1) := by decide +kernel
theorem dX9_lacksOf_20 : decode cX9_lacksOf 20 = .ok (.iaload, 1) := by decide +kernel
theorem dX9_lacksOf_21 : decode cX9_lacksOf 21 = .ok (.irem, 1) := by decide +kernel
theorem dX9_lacksOf_22 : decode cX9_lacksOf 22 = .ok (.if_icmp .ge 7, 3) := by decide +kernel
theorem dX9_lacksOf_25 : decode cX9_lacksOf 25 = .ok (.iconst 1, 1) := by decide +kernel
theorem dX9_lacksOf_26 : decode cX9_lacksOf 26 = .ok (.goto 4, 3) := by decide +kernel
theorem dX9_lacksOf_29 : decode cX9_lacksOf 29 = .ok (.iconst 0, 1) := by decide +kernel
theorem dX9_lacksOf_30 : decode cX9_lacksOf 30 = .ok (.iadd, 1) := by decide +kernel
theorem dX9_lacksOf_31 : decode cX9_lacksOf 31 = .ok (.aload_n 0, 1) := by decide +kernel
theorem dX9_lacksOf_32 : decode cX9_lacksOf 32 = .ok (.iload_n 1, 1) := by decide +kernel
theorem dX9_lacksOf_33 : decode cX9_lacksOf 33 = .ok (.invokevirtual 155, 3) := by decide +kernel
theorem dX9_lacksOf_36 : decode cX9_lacksOf 36 = .ok (.isub, 1) := by decide +kernel
theorem dX9_lacksOf_37 : decode cX9_lacksOf 37 = .ok (.ireturn, 1) := by decide +kernel
set_option maxRecDepth 20000 in
theorem ggX9_settled_X9_isTenant : GoodIn wsX9_settled wsX9_isTenant := goodIn_r _ [6, 7, 8, 9, 5, 10, 24, 25, 26, 27, 28, 29, 30, 31, 32, 33, 34, 35, 36, 37, 38, 39, 40, 41, 42, 43, 44, 45] (by decide +kernel) (by decide +kernel)
set_option maxRecDepth 20000 in
theorem gX9_settled_X9_isTenant : GoodIn wsX9_settled (wsV RX9 137 RX9 yX9_isTenant wsX9_isTenant) := goodIn_app (goodIn_of _ (by decide +kernel)) ggX9_settled_X9_isTenant
set_option maxRecDepth 20000 in
theorem ggX9_settled_X9_lacksOf : GoodIn wsX9_settled wsX9_lacksOf := goodIn_r _ [14, 7, 15, 16, 17, 5, 18, 19, 20, 21, 22, 23, 24, 25, 26, 27, 28, 29, 30, 31, 32, 33, 34, 35, 36, 37, 38, 39, 40, 41, 42, 43, 44, 45] (by decide +kernel) (by decide +kernel)
set_option maxRecDepth 20000 in
theorem gX9_settled_X9_lacksOf : GoodIn wsX9_settled (wsV RX9 185 RX9 yX9_lacksOf wsX9_lacksOf) := goodIn_app (goodIn_of _ (by decide +kernel)) ggX9_settled_X9_lacksOf
theorem dX9_settled_0 : decode cX9_settled 0 = .ok (.aload_n 0, 1) := by decide +kernel
theorem dX9_settled_1 : decode cX9_settled 1 = .ok (.iload_n 1, 1) := by decide +kernel
theorem dX9_settled_2 : decode cX9_settled 2 = .ok (.invokevirtual 137, 3) := by decide +kernel
theorem dX9_settled_5 : decode cX9_settled 5 = .ok (.ifCond .eq 11, 3) := by decide +kernel
theorem dX9_settled_8 : decode cX9_settled 8 = .ok (.aload_n 0, 1) := by decide +kernel
theorem dX9_settled_9 : decode cX9_settled 9 = .ok (.iload_n 1, 1) := by decide +kernel
theorem dX9_settled_10 : decode cX9_settled 10 = .ok (.invokevirtual 185, 3) := by decide +kernel
theorem dX9_settled_13 : decode cX9_settled 13 = .ok (.goto 5, 3) := by decide +kernel
theorem dX9_settled_16 : decode cX9_settled 16 = .ok (.ldc 184, 2) := by decide +kernel
theorem dX9_settled_18 : decode cX9_settled 18 = .ok (.ireturn, 1) := by decide +kernel
set_option maxRecDepth 20000 in
theorem ggX9_payments_X9_lacksOf : GoodIn wsX9_payments wsX9_lacksOf := goodIn_r _ [7, 1, 8, 9, 10, 6, 11, 12, 13, 14, 15, 16, 20, 21, 22, 23, 24, 25, 26, 27, 28, 29, 30, 31, 32, 33, 34, 35, 36, 37, 38, 39, 40, 41] (by decide +kernel) (by decide +kernel)
set_option maxRecDepth 20000 in
theorem gX9_payments_X9_lacksOf : GoodIn wsX9_payments (wsV RX9 185 RX9 yX9_lacksOf wsX9_lacksOf) := goodIn_app (goodIn_of _ (by decide +kernel)) ggX9_payments_X9_lacksOf
set_option maxRecDepth 20000 in
theorem ggX9_payments_X9_many : GoodIn wsX9_payments wsX9_many := goodIn_r _ [19] (by decide +kernel) (by decide +kernel)
set_option maxRecDepth 20000 in
theorem gX9_payments_X9_many : GoodIn wsX9_payments (va_wsS RX9 178 yX9_many wsX9_many) := goodIn_app (goodIn_of _ (by decide +kernel)) ggX9_payments_X9_many
theorem dX9_payments_0 : decode cX9_payments 0 = .ok (.iconst 0, 1) := by decide +kernel
theorem dX9_payments_1 : decode cX9_payments 1 = .ok (.istore_n 1, 1) := by decide +kernel
theorem dX9_payments_2 : decode cX9_payments 2 = .ok (.iconst 0, 1) := by decide +kernel
theorem dX9_payments_3 : decode cX9_payments 3 = .ok (.istore_n 2, 1) := by decide +kernel
theorem dX9_payments_4 : decode cX9_payments 4 = .ok (.iload_n 2, 1) := by decide +kernel
theorem dX9_payments_5 : decode cX9_payments 5 = .ok (.aload_n 0, 1) := by decide +kernel
theorem dX9_payments_6 : decode cX9_payments 6 = .ok (.getfield 16, 3) := by decide +kernel
theorem dX9_payments_9 : decode cX9_payments 9 = .ok (.iconst 1, 1) := by decide +kernel
theorem dX9_payments_10 : decode cX9_payments 10 = .ok (.iaload, 1) := by decide +kernel
theorem dX9_payments_11 : decode cX9_payments 11 = .ok (.if_icmp .ge 27, 3) := by decide +kernel
theorem dX9_payments_14 : decode cX9_payments 14 = .ok (.iload_n 1, 1) := by decide +kernel
theorem dX9_payments_15 : decode cX9_payments 15 = .ok (.aload_n 0, 1) := by decide +kernel
theorem dX9_payments_16 : decode cX9_payments 16 = .ok (.iload_n 2, 1) := by decide +kernel
theorem dX9_payments_17 : decode cX9_payments 17 = .ok (.invokevirtual 185, 3) := by decide +kernel
theorem dX9_payments_20 : decode cX9_payments 20 = .ok (.ifCond .eq 9, 3) := by decide +kernel
theorem dX9_payments_23 : decode cX9_payments 23 = .ok (.iconst 1, 1) := by decide +kernel
theorem dX9_payments_24 : decode cX9_payments 24 = .ok (.iload_n 2, 1) := by decide +kernel
theorem dX9_payments_25 : decode cX9_payments 25 = .ok (.ishl, 1) := by decide +kernel
theorem dX9_payments_26 : decode cX9_payments 26 = .ok (.goto 4, 3) := by decide +kernel
theorem dX9_payments_29 : decode cX9_payments 29 = .ok (.iconst 0, 1) := by decide +kernel
theorem dX9_payments_30 : decode cX9_payments 30 = .ok (.ior, 1) := by decide +kernel
theorem dX9_payments_31 : decode cX9_payments 31 = .ok (.istore_n 1, 1) := by decide +kernel
theorem dX9_payments_32 : decode cX9_payments 32 = .ok (.iinc 2 1, 3) := by decide +kernel
theorem dX9_payments_35 : decode cX9_payments 35 = .ok (.goto (-31), 3) := by decide +kernel
theorem dX9_payments_38 : decode cX9_payments 38 = .ok (.aload_n 0, 1) := by decide +kernel
theorem dX9_payments_39 : decode cX9_payments 39 = .ok (.getfield 28, 3) := by decide +kernel
theorem dX9_payments_42 : decode cX9_payments 42 = .ok (.iconst 0, 1) := by decide +kernel
theorem dX9_payments_43 : decode cX9_payments 43 = .ok (.iconst 0, 1) := by decide +kernel
theorem dX9_payments_44 : decode cX9_payments 44 = .ok (.iastore, 1) := by decide +kernel
theorem dX9_payments_45 : decode cX9_payments 45 = .ok (.iconst 1, 1) := by decide +kernel
theorem dX9_payments_46 : decode cX9_payments 46 = .ok (.istore_n 2, 1) := by decide +kernel
theorem dX9_payments_47 : decode cX9_payments 47 = .ok (.iload_n 2, 1) := by decide +kernel
theorem dX9_payments_48 : decode cX9_payments 48 = .ok (.iload_n 1, 1) := by decide +kernel
theorem dX9_payments_49 : decode cX9_payments 49 = .ok (.if_icmp .gt 133, 3) := by decide +kernel
theorem dX9_payments_52 : decode cX9_payments 52 = .ok (.aload_n 0, 1) := by decide +kernel
theorem dX9_payments_53 : decode cX9_payments 53 = .ok (.getfield 28, 3) := by decide +kernel
theorem dX9_payments_56 : decode cX9_payments 56 = .ok (.iload_n 2, 1) := by decide +kernel
theorem dX9_payments_57 : decode cX9_payments 57 = .ok (.iconst (-1), 1) := by decide +kernel
theorem dX9_payments_58 : decode cX9_payments 58 = .ok (.iastore, 1) := by decide +kernel
theorem dX9_payments_59 : decode cX9_payments 59 = .ok (.iload_n 2, 1) := by decide +kernel
theorem dX9_payments_60 : decode cX9_payments 60 = .ok (.istore_n 3, 1) := by decide +kernel
theorem dX9_payments_61 : decode cX9_payments 61 = .ok (.iload_n 3, 1) := by decide +kernel
theorem dX9_payments_62 : decode cX9_payments 62 = .ok (.ifCond .le 114, 3) := by decide +kernel
theorem dX9_payments_65 : decode cX9_payments 65 = .ok (.iconst 0, 1) := by decide +kernel
theorem dX9_payments_66 : decode cX9_payments 66 = .ok (.istore 4, 2) := by decide +kernel
theorem dX9_payments_68 : decode cX9_payments 68 = .ok (.iconst 0, 1) := by decide +kernel
theorem dX9_payments_69 : decode cX9_payments 69 = .ok (.istore 5, 2) := by decide +kernel
theorem dX9_payments_71 : decode cX9_payments 71 = .ok (.iload 5, 2) := by decide +kernel
theorem dX9_payments_73 : decode cX9_payments 73 = .ok (.aload_n 0, 1) := by decide +kernel
theorem dX9_payments_74 : decode cX9_payments 74 = .ok (.getfield 16, 3) := by decide +kernel
theorem dX9_payments_77 : decode cX9_payments 77 = .ok (.iconst 1, 1) := by decide +kernel
theorem dX9_payments_78 : decode cX9_payments 78 = .ok (.iaload, 1) := by decide +kernel
theorem dX9_payments_79 : decode cX9_payments 79 = .ok (.if_icmp .ge 34, 3) := by decide +kernel
theorem dX9_payments_82 : decode cX9_payments 82 = .ok (.iload 4, 2) := by decide +kernel
theorem dX9_payments_84 : decode cX9_payments 84 = .ok (.iload_n 3, 1) := by decide +kernel
theorem dX9_payments_85 : decode cX9_payments 85 = .ok (.iload 5, 2) := by decide +kernel
theorem dX9_payments_87 : decode cX9_payments 87 = .ok (.ishr, 1) := by decide +kernel
theorem dX9_payments_88 : decode cX9_payments 88 = .ok (.iconst 1, 1) := by decide +kernel
theorem dX9_payments_89 : decode cX9_payments 89 = .ok (.iand, 1) := by decide +kernel
theorem dX9_payments_90 : decode cX9_payments 90 = .ok (.iconst 1, 1) := by decide +kernel
theorem dX9_payments_91 : decode cX9_payments 91 = .ok (.if_icmp .ne 12, 3) := by decide +kernel
theorem dX9_payments_94 : decode cX9_payments 94 = .ok (.aload_n 0, 1) := by decide +kernel
theorem dX9_payments_95 : decode cX9_payments 95 = .ok (.iload 5, 2) := by decide +kernel
theorem dX9_payments_97 : decode cX9_payments 97 = .ok (.invokevirtual 185, 3) := by decide +kernel
theorem dX9_payments_100 : decode cX9_payments 100 = .ok (.goto 4, 3) := by decide +kernel
theorem dX9_payments_103 : decode cX9_payments 103 = .ok (.iconst 0, 1) := by decide +kernel
theorem dX9_payments_104 : decode cX9_payments 104 = .ok (.iadd, 1) := by decide +kernel
theorem dX9_payments_105 : decode cX9_payments 105 = .ok (.istore 4, 2) := by decide +kernel
theorem dX9_payments_107 : decode cX9_payments 107 = .ok (.iinc 5 1, 3) := by decide +kernel
theorem dX9_payments_110 : decode cX9_payments 110 = .ok (.goto (-39), 3) := by decide +kernel
theorem dX9_payments_113 : decode cX9_payments 113 = .ok (.aload_n 0, 1) := by decide +kernel
theorem dX9_payments_114 : decode cX9_payments 114 = .ok (.getfield 28, 3) := by decide +kernel
theorem dX9_payments_117 : decode cX9_payments 117 = .ok (.iload_n 2, 1) := by decide +kernel
theorem dX9_payments_118 : decode cX9_payments 118 = .ok (.iload_n 3, 1) := by decide +kernel
theorem dX9_payments_119 : decode cX9_payments 119 = .ok (.iconst (-1), 1) := by decide +kernel
theorem dX9_payments_120 : decode cX9_payments 120 = .ok (.ixor, 1) := by decide +kernel
theorem dX9_payments_121 : decode cX9_payments 121 = .ok (.iand, 1) := by decide +kernel
theorem dX9_payments_122 : decode cX9_payments 122 = .ok (.iaload, 1) := by decide +kernel
theorem dX9_payments_123 : decode cX9_payments 123 = .ok (.istore 5, 2) := by decide +kernel
theorem dX9_payments_125 : decode cX9_payments 125 = .ok (.aload_n 0, 1) := by decide +kernel
theorem dX9_payments_126 : decode cX9_payments 126 = .ok (.getfield 28, 3) := by decide +kernel
theorem dX9_payments_129 : decode cX9_payments 129 = .ok (.iload_n 2, 1) := by decide +kernel
theorem dX9_payments_130 : decode cX9_payments 130 = .ok (.iload 4, 2) := by decide +kernel
theorem dX9_payments_132 : decode cX9_payments 132 = .ok (.ifCond .ne 28, 3) := by decide +kernel
theorem dX9_payments_135 : decode cX9_payments 135 = .ok (.iload 5, 2) := by decide +kernel
theorem dX9_payments_137 : decode cX9_payments 137 = .ok (.ifCond .lt 23, 3) := by decide +kernel
theorem dX9_payments_140 : decode cX9_payments 140 = .ok (.iload 5, 2) := by decide +kernel
theorem dX9_payments_142 : decode cX9_payments 142 = .ok (.iconst 1, 1) := by decide +kernel
theorem dX9_payments_143 : decode cX9_payments 143 = .ok (.iadd, 1) := by decide +kernel
theorem dX9_payments_144 : decode cX9_payments 144 = .ok (.aload_n 0, 1) := by decide +kernel
theorem dX9_payments_145 : decode cX9_payments 145 = .ok (.getfield 28, 3) := by decide +kernel
theorem dX9_payments_148 : decode cX9_payments 148 = .ok (.iload_n 2, 1) := by decide +kernel
theorem dX9_payments_149 : decode cX9_payments 149 = .ok (.iaload, 1) := by decide +kernel
theorem dX9_payments_150 : decode cX9_payments 150 = .ok (.if_icmp .le 10, 3) := by decide +kernel
theorem dX9_payments_153 : decode cX9_payments 153 = .ok (.iload 5, 2) := by decide +kernel
theorem dX9_payments_155 : decode cX9_payments 155 = .ok (.iconst 1, 1) := by decide +kernel
theorem dX9_payments_156 : decode cX9_payments 156 = .ok (.iadd, 1) := by decide +kernel
theorem dX9_payments_157 : decode cX9_payments 157 = .ok (.goto 9, 3) := by decide +kernel
theorem dX9_payments_160 : decode cX9_payments 160 = .ok (.aload_n 0, 1) := by decide +kernel
theorem dX9_payments_161 : decode cX9_payments 161 = .ok (.getfield 28, 3) := by decide +kernel
theorem dX9_payments_164 : decode cX9_payments 164 = .ok (.iload_n 2, 1) := by decide +kernel
theorem dX9_payments_165 : decode cX9_payments 165 = .ok (.iaload, 1) := by decide +kernel
theorem dX9_payments_166 : decode cX9_payments 166 = .ok (.iastore, 1) := by decide +kernel
theorem dX9_payments_167 : decode cX9_payments 167 = .ok (.iload_n 3, 1) := by decide +kernel
theorem dX9_payments_168 : decode cX9_payments 168 = .ok (.iconst 1, 1) := by decide +kernel
theorem dX9_payments_169 : decode cX9_payments 169 = .ok (.isub, 1) := by decide +kernel
theorem dX9_payments_170 : decode cX9_payments 170 = .ok (.iload_n 2, 1) := by decide +kernel
theorem dX9_payments_171 : decode cX9_payments 171 = .ok (.iand, 1) := by decide +kernel
theorem dX9_payments_172 : decode cX9_payments 172 = .ok (.istore_n 3, 1) := by decide +kernel
theorem dX9_payments_173 : decode cX9_payments 173 = .ok (.goto (-112), 3) := by decide +kernel
theorem dX9_payments_176 : decode cX9_payments 176 = .ok (.iinc 2 1, 3) := by decide +kernel
theorem dX9_payments_179 : decode cX9_payments 179 = .ok (.goto (-132), 3) := by decide +kernel
theorem dX9_payments_182 : decode cX9_payments 182 = .ok (.iload_n 1, 1) := by decide +kernel
theorem dX9_payments_183 : decode cX9_payments 183 = .ok (.invokestatic 178, 3) := by decide +kernel
theorem dX9_payments_186 : decode cX9_payments 186 = .ok (.aload_n 0, 1) := by decide +kernel
theorem dX9_payments_187 : decode cX9_payments 187 = .ok (.getfield 28, 3) := by decide +kernel
theorem dX9_payments_190 : decode cX9_payments 190 = .ok (.iload_n 1, 1) := by decide +kernel
theorem dX9_payments_191 : decode cX9_payments 191 = .ok (.iaload, 1) := by decide +kernel
theorem dX9_payments_192 : decode cX9_payments 192 = .ok (.isub, 1) := by decide +kernel
theorem dX9_payments_193 : decode cX9_payments 193 = .ok (.ireturn, 1) := by decide +kernel
theorem dX9_hear_0 : decode cX9_hear 0 = .ok (.iconst 0, 1) := by decide +kernel
theorem dX9_hear_1 : decode cX9_hear 1 = .ok (.istore_n 2, 1) := by decide +kernel
theorem dX9_hear_2 : decode cX9_hear 2 = .ok (.iconst 0, 1) := by decide +kernel
theorem dX9_hear_3 : decode cX9_hear 3 = .ok (.istore_n 3, 1) := by decide +kernel
theorem dX9_hear_4 : decode cX9_hear 4 = .ok (.iload_n 3, 1) := by decide +kernel
theorem dX9_hear_5 : decode cX9_hear 5 = .ok (.aload_n 0, 1) := by decide +kernel
theorem dX9_hear_6 : decode cX9_hear 6 = .ok (.getfield 16, 3) := by decide +kernel
theorem dX9_hear_9 : decode cX9_hear 9 = .ok (.iconst 1, 1) := by decide +kernel
theorem dX9_hear_10 : decode cX9_hear 10 = .ok (.iaload, 1) := by decide +kernel
theorem dX9_hear_11 : decode cX9_hear 11 = .ok (.if_icmp .ge 37, 3) := by decide +kernel
theorem dX9_hear_14 : decode cX9_hear 14 = .ok (.iload_n 2, 1) := by decide +kernel
theorem dX9_hear_15 : decode cX9_hear 15 = .ok (.aload_n 0, 1) := by decide +kernel
theorem dX9_hear_16 : decode cX9_hear 16 = .ok (.getfield 16, 3) := by decide +kernel
theorem dX9_hear_19 : decode cX9_hear 19 = .ok (.bipush 9, 2) := by decide +kernel
theorem dX9_hear_21 : decode cX9_hear 21 = .ok (.iconst 5, 1) := by decide +kernel
theorem dX9_hear_22 : decode cX9_hear 22 = .ok (.iload_n 3, 1) := by decide +kernel
theorem dX9_hear_23 : decode cX9_hear 23 = .ok (.imul, 1) := by decide +kernel
theorem dX9_hear_24 : decode cX9_hear 24 = .ok (.iadd, 1) := by decide +kernel
theorem dX9_hear_25 : decode cX9_hear 25 = .ok (.iconst 4, 1) := by decide +kernel
theorem dX9_hear_26 : decode cX9_hear 26 = .ok (.iadd, 1) := by decide +kernel
theorem dX9_hear_27 : decode cX9_hear 27 = .ok (.iaload, 1) := by decide +kernel
theorem dX9_hear_28 : decode cX9_hear 28 = .ok (.iload_n 1, 1) := by decide +kernel
theorem dX9_hear_29 : decode cX9_hear 29 = .ok (.iand, 1) := by decide +kernel
theorem dX9_hear_30 : decode cX9_hear 30 = .ok (.ifCond .eq 9, 3) := by decide +kernel
theorem dX9_hear_33 : decode cX9_hear 33 = .ok (.iconst 1, 1) := by decide +kernel
theorem dX9_hear_34 : decode cX9_hear 34 = .ok (.iload_n 3, 1) := by decide +kernel
theorem dX9_hear_35 : decode cX9_hear 35 = .ok (.ishl, 1) := by decide +kernel
theorem dX9_hear_36 : decode cX9_hear 36 = .ok (.goto 4, 3) := by decide +kernel
theorem dX9_hear_39 : decode cX9_hear 39 = .ok (.iconst 0, 1) := by decide +kernel
theorem dX9_hear_40 : decode cX9_hear 40 = .ok (.ior, 1) := by decide +kernel
theorem dX9_hear_41 : decode cX9_hear 41 = .ok (.istore_n 2, 1) := by decide +kernel
theorem dX9_hear_42 : decode cX9_hear 42 = .ok (.iinc 3 1, 3) := by decide +kernel
theorem dX9_hear_45 : decode cX9_hear 45 = .ok (.goto (-41), 3) := by decide +kernel
theorem dX9_hear_48 : decode cX9_hear 48 = .ok (.iload_n 2, 1) := by decide +kernel
theorem dX9_hear_49 : decode cX9_hear 49 = .ok (.ireturn, 1) := by decide +kernel
set_option maxRecDepth 20000 in
theorem ggX9_know_X9_hear : GoodIn wsX9_know wsX9_hear := goodIn_r _ [5, 6, 7, 8, 9, 10, 11, 12, 13, 14, 15, 16, 17, 18, 19, 20, 21, 22, 23, 24, 25, 26, 27, 28] (by decide +kernel) (by decide +kernel)
set_option maxRecDepth 20000 in
theorem gX9_know_X9_hear : GoodIn wsX9_know (wsV RX9 188 RX9 yX9_hear wsX9_hear) := goodIn_app (goodIn_of _ (by decide +kernel)) ggX9_know_X9_hear
theorem dX9_know_0 : decode cX9_know 0 = .ok (.iconst 1, 1) := by decide +kernel
theorem dX9_know_1 : decode cX9_know 1 = .ok (.iload_n 1, 1) := by decide +kernel
theorem dX9_know_2 : decode cX9_know 2 = .ok (.ishl, 1) := by decide +kernel
theorem dX9_know_3 : decode cX9_know 3 = .ok (.istore_n 3, 1) := by decide +kernel
theorem dX9_know_4 : decode cX9_know 4 = .ok (.iconst 0, 1) := by decide +kernel
theorem dX9_know_5 : decode cX9_know 5 = .ok (.istore 4, 2) := by decide +kernel
theorem dX9_know_7 : decode cX9_know 7 = .ok (.iload 4, 2) := by decide +kernel
theorem dX9_know_9 : decode cX9_know 9 = .ok (.iload_n 3, 1) := by decide +kernel
theorem dX9_know_10 : decode cX9_know 10 = .ok (.if_icmp .eq 19, 3) := by decide +kernel
theorem dX9_know_13 : decode cX9_know 13 = .ok (.iload_n 3, 1) := by decide +kernel
theorem dX9_know_14 : decode cX9_know 14 = .ok (.istore 4, 2) := by decide +kernel
theorem dX9_know_16 : decode cX9_know 16 = .ok (.iload_n 3, 1) := by decide +kernel
theorem dX9_know_17 : decode cX9_know 17 = .ok (.aload_n 0, 1) := by decide +kernel
theorem dX9_know_18 : decode cX9_know 18 = .ok (.iload_n 3, 1) := by decide +kernel
theorem dX9_know_19 : decode cX9_know 19 = .ok (.iload_n 2, 1) := by decide +kernel
theorem dX9_know_20 : decode cX9_know 20 = .ok (.iand, 1) := by decide +kernel
theorem dX9_know_21 : decode cX9_know 21 = .ok (.invokevirtual 188, 3) := by decide +kernel
theorem dX9_know_24 : decode cX9_know 24 = .ok (.ior, 1) := by decide +kernel
theorem dX9_know_25 : decode cX9_know 25 = .ok (.istore_n 3, 1) := by decide +kernel
theorem dX9_know_26 : decode cX9_know 26 = .ok (.goto (-19), 3) := by decide +kernel
theorem dX9_know_29 : decode cX9_know 29 = .ok (.iload_n 3, 1) := by decide +kernel
theorem dX9_know_30 : decode cX9_know 30 = .ok (.ireturn, 1) := by decide +kernel
set_option maxRecDepth 20000 in
theorem ggX9_told_X9_isTenant : GoodIn wsX9_told wsX9_isTenant := goodIn_r _ [6, 1, 7, 8, 5, 9, 21, 22, 23, 24, 25, 26, 27, 28, 29, 30, 31, 32, 33, 34, 35, 36, 37, 38, 39, 40, 41, 42] (by decide +kernel) (by decide +kernel)
set_option maxRecDepth 20000 in
theorem gX9_told_X9_isTenant : GoodIn wsX9_told (wsV RX9 137 RX9 yX9_isTenant wsX9_isTenant) := goodIn_app (goodIn_of _ (by decide +kernel)) ggX9_told_X9_isTenant
set_option maxRecDepth 20000 in
theorem ggX9_told_X9_many : GoodIn wsX9_told wsX9_many := goodIn_r _ [12] (by decide +kernel) (by decide +kernel)
set_option maxRecDepth 20000 in
theorem gX9_told_X9_many : GoodIn wsX9_told (va_wsS RX9 178 yX9_many wsX9_many) := goodIn_app (goodIn_of _ (by decide +kernel)) ggX9_told_X9_many
set_option maxRecDepth 20000 in
theorem ggX9_told_X9_know : GoodIn wsX9_told wsX9_know := goodIn_r _ [16, 17, 18, 19, 5, 20, 1, 21, 22, 23, 24, 25, 26, 27, 28, 29, 30, 31, 32, 33, 34, 35, 36, 37, 38, 39, 40, 41, 42] (by decide +kernel) (by decide +kernel)
set_option maxRecDepth 20000 in
theorem gX9_told_X9_know : GoodIn wsX9_told (wsV RX9 191 RX9 yX9_know wsX9_know) := goodIn_app (goodIn_of _ (by decide +kernel)) ggX9_told_X9_know
theorem dX9_told_0 : decode cX9_told 0 = .ok (.aload_n 0, 1) := by decide +kernel
theorem dX9_told_1 : decode cX9_told 1 = .ok (.iload_n 1, 1) := by decide +kernel
theorem dX9_told_2 : decode cX9_told 2 = .ok (.invokevirtual 137, 3) := by decide +kernel
theorem dX9_told_5 : decode cX9_told 5 = .ok (.ifCond .ne 5, 3) := by decide +kernel
theorem dX9_told_8 : decode cX9_told 8 = .ok (.iconst (-1), 1) := by decide +kernel
theorem dX9_told_9 : decode cX9_told 9 = .ok (.ireturn, 1) := by decide +kernel
theorem dX9_told_10 : decode cX9_told 10 = .ok (.iconst 1, 1) := by decide +kernel
theorem dX9_told_11 : decode cX9_told 11 = .ok (.aload_n 0, 1) := by decide +kernel
theorem dX9_told_12 : decode cX9_told 12 = .ok (.getfield 16, 3) := by decide +kernel
theorem dX9_told_15 : decode cX9_told 15 = .ok (.iconst 1, 1) := by decide +kernel
theorem dX9_told_16 : decode cX9_told 16 = .ok (.iaload, 1) := by decide +kernel
theorem dX9_told_17 : decode cX9_told 17 = .ok (.ishl, 1) := by decide +kernel
theorem dX9_told_18 : decode cX9_told 18 = .ok (.iconst 1, 1) := by decide +kernel
theorem dX9_told_19 : decode cX9_told 19 = .ok (.isub, 1) := by decide +kernel
theorem dX9_told_20 : decode cX9_told 20 = .ok (.istore_n 2, 1) := by decide +kernel
theorem dX9_told_21 : decode cX9_told 21 = .ok (.bipush (-9), 2) := by decide +kernel
theorem dX9_told_23 : decode cX9_told 23 = .ok (.istore_n 3, 1) := by decide +kernel
theorem dX9_told_24 : decode cX9_told 24 = .ok (.iconst 0, 1) := by decide +kernel
theorem dX9_told_25 : decode cX9_told 25 = .ok (.istore 4, 2) := by decide +kernel
theorem dX9_told_27 : decode cX9_told 27 = .ok (.iload 4, 2) := by decide +kernel
theorem dX9_told_29 : decode cX9_told 29 = .ok (.iload_n 2, 1) := by decide +kernel
theorem dX9_told_30 : decode cX9_told 30 = .ok (.if_icmp .gt 57, 3) := by decide +kernel
theorem dX9_told_33 : decode cX9_told 33 = .ok (.iload_n 3, 1) := by decide +kernel
theorem dX9_told_34 : decode cX9_told 34 = .ok (.bipush (-9), 2) := by decide +kernel
theorem dX9_told_36 : decode cX9_told 36 = .ok (.if_icmp .eq 15, 3) := by decide +kernel
theorem dX9_told_39 : decode cX9_told 39 = .ok (.iload 4, 2) := by decide +kernel
theorem dX9_told_41 : decode cX9_told 41 = .ok (.invokestatic 178, 3) := by decide +kernel
theorem dX9_told_44 : decode cX9_told 44 = .ok (.iload_n 3, 1) := by decide +kernel
theorem dX9_told_45 : decode cX9_told 45 = .ok (.invokestatic 178, 3) := by decide +kernel
theorem dX9_told_48 : decode cX9_told 48 = .ok (.if_icmp .ge 7, 3) := by decide +kernel
theorem dX9_told_51 : decode cX9_told 51 = .ok (.iconst 1, 1) := by decide +kernel
theorem dX9_told_52 : decode cX9_told 52 = .ok (.goto 4, 3) := by decide +kernel
theorem dX9_told_55 : decode cX9_told 55 = .ok (.iconst 0, 1) := by decide +kernel
theorem dX9_told_56 : decode cX9_told 56 = .ok (.istore 5, 2) := by decide +kernel
theorem dX9_told_58 : decode cX9_told 58 = .ok (.iload 5, 2) := by decide +kernel
theorem dX9_told_60 : decode cX9_told 60 = .ok (.ifCond .eq 19, 3) := by decide +kernel
theorem dX9_told_63 : decode cX9_told 63 = .ok (.aload_n 0, 1) := by decide +kernel
theorem dX9_told_64 : decode cX9_told 64 = .ok (.iload_n 1, 1) := by decide +kernel
theorem dX9_told_65 : decode cX9_told 65 = .ok (.iload 4, 2) := by decide +kernel
theorem dX9_told_67 : decode cX9_told 67 = .ok (.invokevirtual 191, 3) := by decide +kernel
theorem dX9_told_70 : decode cX9_told 70 = .ok (.iload_n 2, 1) := by decide +kernel
theorem dX9_told_71 : decode cX9_told 71 = .ok (.if_icmp .ne 8, 3) := by decide +kernel
theorem dX9_told_74 : decode cX9_told 74 = .ok (.iload 4, 2) := by decide +kernel
theorem dX9_told_76 : decode cX9_told 76 = .ok (.goto 4, 3) := by decide +kernel
theorem dX9_told_79 : decode cX9_told 79 = .ok (.iload_n 3, 1) := by decide +kernel
theorem dX9_told_80 : decode cX9_told 80 = .ok (.istore_n 3, 1) := by decide +kernel
theorem dX9_told_81 : decode cX9_told 81 = .ok (.iinc 4 1, 3) := by decide +kernel
theorem dX9_told_84 : decode cX9_told 84 = .ok (.goto (-57), 3) := by decide +kernel
theorem dX9_told_87 : decode cX9_told 87 = .ok (.iload_n 3, 1) := by decide +kernel
theorem dX9_told_88 : decode cX9_told 88 = .ok (.ireturn, 1) := by decide +kernel
set_option maxRecDepth 20000 in
theorem ggX9_rounds_X9_isTenant : GoodIn wsX9_rounds wsX9_isTenant := goodIn_r _ [6, 1, 7, 8, 5, 9, 14, 15, 16, 17, 18, 19, 20, 21, 22, 23, 24, 25, 26, 27, 28, 29, 30, 31, 32, 33, 34, 35] (by decide +kernel) (by decide +kernel)
set_option maxRecDepth 20000 in
theorem gX9_rounds_X9_isTenant : GoodIn wsX9_rounds (wsV RX9 137 RX9 yX9_isTenant wsX9_isTenant) := goodIn_app (goodIn_of _ (by decide +kernel)) ggX9_rounds_X9_isTenant
set_option maxRecDepth 20000 in
theorem ggX9_rounds_X9_hear : GoodIn wsX9_rounds wsX9_hear := goodIn_r _ [13, 1, 14, 15, 16, 17, 18, 19, 20, 21, 22, 23, 24, 25, 26, 27, 28, 29, 30, 31, 32, 33, 34, 35] (by decide +kernel) (by decide +kernel)
set_option maxRecDepth 20000 in
theorem gX9_rounds_X9_hear : GoodIn wsX9_rounds (wsV RX9 188 RX9 yX9_hear wsX9_hear) := goodIn_app (goodIn_of _ (by decide +kernel)) ggX9_rounds_X9_hear
theorem dX9_rounds_0 : decode cX9_rounds 0 = .ok (.aload_n 0, 1) := by decide +kernel
theorem dX9_rounds_1 : decode cX9_rounds 1 = .ok (.iload_n 1, 1) := by decide +kernel
theorem dX9_rounds_2 : decode cX9_rounds 2 = .ok (.invokevirtual 137, 3) := by decide +kernel
theorem dX9_rounds_5 : decode cX9_rounds 5 = .ok (.ifCond .ne 5, 3) := by decide +kernel
theorem dX9_rounds_8 : decode cX9_rounds 8 = .ok (.iconst (-1), 1) := by decide +kernel
theorem dX9_rounds_9 : decode cX9_rounds 9 = .ok (.ireturn, 1) := by decide +kernel
theorem dX9_rounds_10 : decode cX9_rounds 10 = .ok (.iconst 1, 1) := by decide +kernel
theorem dX9_rounds_11 : decode cX9_rounds 11 = .ok (.iload_n 1, 1) := by decide +kernel
theorem dX9_rounds_12 : decode cX9_rounds 12 = .ok (.ishl, 1) := by decide +kernel
theorem dX9_rounds_13 : decode cX9_rounds 13 = .ok (.istore_n 2, 1) := by decide +kernel
theorem dX9_rounds_14 : decode cX9_rounds 14 = .ok (.iconst 0, 1) := by decide +kernel
theorem dX9_rounds_15 : decode cX9_rounds 15 = .ok (.istore_n 3, 1) := by decide +kernel
theorem dX9_rounds_16 : decode cX9_rounds 16 = .ok (.iload_n 3, 1) := by decide +kernel
theorem dX9_rounds_17 : decode cX9_rounds 17 = .ok (.bipush 7, 2) := by decide +kernel
theorem dX9_rounds_19 : decode cX9_rounds 19 = .ok (.if_icmp .ge 33, 3) := by decide +kernel
theorem dX9_rounds_22 : decode cX9_rounds 22 = .ok (.iload_n 2, 1) := by decide +kernel
theorem dX9_rounds_23 : decode cX9_rounds 23 = .ok (.iconst 1, 1) := by decide +kernel
theorem dX9_rounds_24 : decode cX9_rounds 24 = .ok (.aload_n 0, 1) := by decide +kernel
theorem dX9_rounds_25 : decode cX9_rounds 25 = .ok (.getfield 16, 3) := by decide +kernel
theorem dX9_rounds_28 : decode cX9_rounds 28 = .ok (.iconst 1, 1) := by decide +kernel
theorem dX9_rounds_29 : decode cX9_rounds 29 = .ok (.iaload, 1) := by decide +kernel
theorem dX9_rounds_30 : decode cX9_rounds 30 = .ok (.ishl, 1) := by decide +kernel
theorem dX9_rounds_31 : decode cX9_rounds 31 = .ok (.iconst 1, 1) := by decide +kernel
theorem dX9_rounds_32 : decode cX9_rounds 32 = .ok (.isub, 1) := by decide +kernel
theorem dX9_rounds_33 : decode cX9_rounds 33 = .ok (.if_icmp .ne 5, 3) := by decide +kernel
theorem dX9_rounds_36 : decode cX9_rounds 36 = .ok (.iload_n 3, 1) := by decide +kernel
theorem dX9_rounds_37 : decode cX9_rounds 37 = .ok (.ireturn, 1) := by decide +kernel
theorem dX9_rounds_38 : decode cX9_rounds 38 = .ok (.iload_n 2, 1) := by decide +kernel
theorem dX9_rounds_39 : decode cX9_rounds 39 = .ok (.aload_n 0, 1) := by decide +kernel
theorem dX9_rounds_40 : decode cX9_rounds 40 = .ok (.iload_n 2, 1) := by decide +kernel
theorem dX9_rounds_41 : decode cX9_rounds 41 = .ok (.invokevirtual 188, 3) := by decide +kernel
theorem dX9_rounds_44 : decode cX9_rounds 44 = .ok (.ior, 1) := by decide +kernel
theorem dX9_rounds_45 : decode cX9_rounds 45 = .ok (.istore_n 2, 1) := by decide +kernel
theorem dX9_rounds_46 : decode cX9_rounds 46 = .ok (.iinc 3 1, 3) := by decide +kernel
theorem dX9_rounds_49 : decode cX9_rounds 49 = .ok (.goto (-33), 3) := by decide +kernel
theorem dX9_rounds_52 : decode cX9_rounds 52 = .ok (.bipush (-9), 2) := by decide +kernel
theorem dX9_rounds_54 : decode cX9_rounds 54 = .ok (.ireturn, 1) := by decide +kernel
set_option maxRecDepth 20000 in
theorem ggX9_watch_X9_in : GoodIn wsX9_watch wsX9_in := goodIn_r _ [5] (by decide +kernel) (by decide +kernel)
set_option maxRecDepth 20000 in
theorem gX9_watch_X9_in : GoodIn wsX9_watch (va_wsS RX9 48 yX9_in wsX9_in) := goodIn_app (goodIn_of _ (by decide +kernel)) ggX9_watch_X9_in
set_option maxRecDepth 20000 in
theorem ggX9_watch_X9_lips : GoodIn wsX9_watch wsX9_lips := goodIn_r _ [9, 1, 13, 14, 15, 16, 17, 18, 19, 20, 21, 22, 23, 24, 25, 26, 27, 28, 29, 30, 31, 32, 33, 34] (by decide +kernel) (by decide +kernel)
set_option maxRecDepth 20000 in
theorem gX9_watch_X9_lips : GoodIn wsX9_watch (wsV RX9 145 RX9 yX9_lips wsX9_lips) := goodIn_app (goodIn_of _ (by decide +kernel)) ggX9_watch_X9_lips
set_option maxRecDepth 20000 in
theorem ggX9_watch_X9_many : GoodIn wsX9_watch wsX9_many := goodIn_r _ [12] (by decide +kernel) (by decide +kernel)
set_option maxRecDepth 20000 in
theorem gX9_watch_X9_many : GoodIn wsX9_watch (va_wsS RX9 178 yX9_many wsX9_many) := goodIn_app (goodIn_of _ (by decide +kernel)) ggX9_watch_X9_many
theorem dX9_watch_0 : decode cX9_watch 0 = .ok (.iload_n 1, 1) := by decide +kernel
theorem dX9_watch_1 : decode cX9_watch 1 = .ok (.i2l, 1) := by decide +kernel
theorem dX9_watch_2 : decode cX9_watch 2 = .ok (.lconst 0, 1) := by decide +kernel
theorem dX9_watch_3 : decode cX9_watch 3 = .ok (.iconst 1, 1) := by decide +kernel
theorem dX9_watch_4 : decode cX9_watch 4 = .ok (.aload_n 0, 1) := by decide +kernel
theorem dX9_watch_5 : decode cX9_watch 5 = .ok (.getfield 16, 3) := by decide +kernel
theorem dX9_watch_8 : decode cX9_watch 8 = .ok (.iconst 1, 1) := by decide +kernel
theorem dX9_watch_9 : decode cX9_watch 9 = .ok (.iaload, 1) := by decide +kernel
theorem dX9_watch_10 : decode cX9_watch 10 = .ok (.ishl, 1) := by decide +kernel
theorem dX9_watch_11 : decode cX9_watch 11 = .ok (.iconst 1, 1) := by decide +kernel
theorem dX9_watch_12 : decode cX9_watch 12 = .ok (.isub, 1) := by decide +kernel
theorem dX9_watch_13 : decode cX9_watch 13 = .ok (.i2l, 1) := by decide +kernel
theorem dX9_watch_14 : decode cX9_watch 14 = .ok (.invokestatic 48, 3) := by decide +kernel
theorem dX9_watch_17 : decode cX9_watch 17 = .ok (.ifCond .ne 5, 3) := by decide +kernel
theorem dX9_watch_20 : decode cX9_watch 20 = .ok (.iconst (-1), 1) := by decide +kernel
theorem dX9_watch_21 : decode cX9_watch 21 = .ok (.ireturn, 1) := by decide +kernel
theorem dX9_watch_22 : decode cX9_watch 22 = .ok (.bipush (-9), 2) := by decide +kernel
theorem dX9_watch_24 : decode cX9_watch 24 = .ok (.istore_n 2, 1) := by decide +kernel
theorem dX9_watch_25 : decode cX9_watch 25 = .ok (.iconst 0, 1) := by decide +kernel
theorem dX9_watch_26 : decode cX9_watch 26 = .ok (.istore_n 3, 1) := by decide +kernel
theorem dX9_watch_27 : decode cX9_watch 27 = .ok (.iload_n 3, 1) := by decide +kernel
theorem dX9_watch_28 : decode cX9_watch 28 = .ok (.iconst 1, 1) := by decide +kernel
theorem dX9_watch_29 : decode cX9_watch 29 = .ok (.aload_n 0, 1) := by decide +kernel
theorem dX9_watch_30 : decode cX9_watch 30 = .ok (.getfield 16, 3) := by decide +kernel
theorem dX9_watch_33 : decode cX9_watch 33 = .ok (.iconst 2, 1) := by decide +kernel
theorem dX9_watch_34 : decode cX9_watch 34 = .ok (.iaload, 1) := by decide +kernel
theorem dX9_watch_35 : decode cX9_watch 35 = .ok (.ishl, 1) := by decide +kernel
theorem dX9_watch_36 : decode cX9_watch 36 = .ok (.if_icmp .ge 101, 3) := by decide +kernel
theorem dX9_watch_39 : decode cX9_watch 39 = .ok (.iconst 0, 1) := by decide +kernel
theorem dX9_watch_40 : decode cX9_watch 40 = .ok (.istore 4, 2) := by decide +kernel
theorem dX9_watch_42 : decode cX9_watch 42 = .ok (.iconst 0, 1) := by decide +kernel
theorem dX9_watch_43 : decode cX9_watch 43 = .ok (.istore 5, 2) := by decide +kernel
theorem dX9_watch_45 : decode cX9_watch 45 = .ok (.iload 5, 2) := by decide +kernel
theorem dX9_watch_47 : decode cX9_watch 47 = .ok (.aload_n 0, 1) := by decide +kernel
theorem dX9_watch_48 : decode cX9_watch 48 = .ok (.getfield 16, 3) := by decide +kernel
theorem dX9_watch_51 : decode cX9_watch 51 = .ok (.iconst 2, 1) := by decide +kernel
theorem dX9_watch_52 : decode cX9_watch 52 = .ok (.iaload, 1) := by decide +kernel
theorem dX9_watch_53 : decode cX9_watch 53 = .ok (.if_icmp .ge 34, 3) := by decide +kernel
theorem dX9_watch_56 : decode cX9_watch 56 = .ok (.iload 4, 2) := by decide +kernel
theorem dX9_watch_58 : decode cX9_watch 58 = .ok (.iload_n 3, 1) := by decide +kernel
theorem dX9_watch_59 : decode cX9_watch 59 = .ok (.iload 5, 2) := by decide +kernel
theorem dX9_watch_61 : decode cX9_watch 61 = .ok (.ishr, 1) := by decide +kernel
theorem dX9_watch_62 : decode cX9_watch 62 = .ok (.iconst 1, 1) := by decide +kernel
theorem dX9_watch_63 : decode cX9_watch 63 = .ok (.iand, 1) := by decide +kernel
theorem dX9_watch_64 : decode cX9_watch 64 = .ok (.iconst 1, 1) := by decide +kernel
theorem dX9_watch_65 : decode cX9_watch 65 = .ok (.if_icmp .ne 12, 3) := by decide +kernel
theorem dX9_watch_68 : decode cX9_watch 68 = .ok (.aload_n 0, 1) := by decide +kernel
theorem dX9_watch_69 : decode cX9_watch 69 = .ok (.iload 5, 2) := by decide +kernel
theorem dX9_watch_71 : decode cX9_watch 71 = .ok (.invokevirtual 145, 3) := by decide +kernel
theorem dX9_watch_74 : decode cX9_watch 74 = .ok (.goto 4, 3) := by decide +kernel
theorem dX9_watch_77 : decode cX9_watch 77 = .ok (.iconst 0, 1) := by decide +kernel
theorem dX9_watch_78 : decode cX9_watch 78 = .ok (.ior, 1) := by decide +kernel
theorem dX9_watch_79 : decode cX9_watch 79 = .ok (.istore 4, 2) := by decide +kernel
theorem dX9_watch_81 : decode cX9_watch 81 = .ok (.iinc 5 1, 3) := by decide +kernel
theorem dX9_watch_84 : decode cX9_watch 84 = .ok (.goto (-39), 3) := by decide +kernel
theorem dX9_watch_87 : decode cX9_watch 87 = .ok (.iload_n 1, 1) := by decide +kernel
theorem dX9_watch_88 : decode cX9_watch 88 = .ok (.iload 4, 2) := by decide +kernel
theorem dX9_watch_90 : decode cX9_watch 90 = .ok (.iconst (-1), 1) := by decide +kernel
theorem dX9_watch_91 : decode cX9_watch 91 = .ok (.ixor, 1) := by decide +kernel
theorem dX9_watch_92 : decode cX9_watch 92 = .ok (.iand, 1) := by decide +kernel
theorem dX9_watch_93 : decode cX9_watch 93 = .ok (.ifCond .ne 24, 3) := by decide +kernel
theorem dX9_watch_96 : decode cX9_watch 96 = .ok (.iload_n 2, 1) := by decide +kernel
theorem dX9_watch_97 : decode cX9_watch 97 = .ok (.bipush (-9), 2) := by decide +kernel
theorem dX9_watch_99 : decode cX9_watch 99 = .ok (.if_icmp .eq 14, 3) := by decide +kernel
theorem dX9_watch_102 : decode cX9_watch 102 = .ok (.iload_n 3, 1) := by decide +kernel
theorem dX9_watch_103 : decode cX9_watch 103 = .ok (.invokestatic 178, 3) := by decide +kernel
theorem dX9_watch_106 : decode cX9_watch 106 = .ok (.iload_n 2, 1) := by decide +kernel
theorem dX9_watch_107 : decode cX9_watch 107 = .ok (.invokestatic 178, 3) := by decide +kernel
theorem dX9_watch_110 : decode cX9_watch 110 = .ok (.if_icmp .ge 7, 3) := by decide +kernel
theorem dX9_watch_113 : decode cX9_watch 113 = .ok (.iconst 1, 1) := by decide +kernel
theorem dX9_watch_114 : decode cX9_watch 114 = .ok (.goto 4, 3) := by decide +kernel
theorem dX9_watch_117 : decode cX9_watch 117 = .ok (.iconst 0, 1) := by decide +kernel
theorem dX9_watch_118 : decode cX9_watch 118 = .ok (.istore 5, 2) := by decide +kernel
theorem dX9_watch_120 : decode cX9_watch 120 = .ok (.iload 5, 2) := by decide +kernel
theorem dX9_watch_122 : decode cX9_watch 122 = .ok (.ifCond .eq 7, 3) := by decide +kernel
theorem dX9_watch_125 : decode cX9_watch 125 = .ok (.iload_n 3, 1) := by decide +kernel
theorem dX9_watch_126 : decode cX9_watch 126 = .ok (.goto 4, 3) := by decide +kernel
theorem dX9_watch_129 : decode cX9_watch 129 = .ok (.iload_n 2, 1) := by decide +kernel
theorem dX9_watch_130 : decode cX9_watch 130 = .ok (.istore_n 2, 1) := by decide +kernel
theorem dX9_watch_131 : decode cX9_watch 131 = .ok (.iinc 3 1, 3) := by decide +kernel
theorem dX9_watch_134 : decode cX9_watch 134 = .ok (.goto (-107), 3) := by decide +kernel
theorem dX9_watch_137 : decode cX9_watch 137 = .ok (.iload_n 2, 1) := by decide +kernel
theorem dX9_watch_138 : decode cX9_watch 138 = .ok (.ireturn, 1) := by decide +kernel
set_option maxRecDepth 20000 in
theorem ggX9_odds_X9_in : GoodIn wsX9_odds wsX9_in := goodIn_r _ [7] (by decide +kernel) (by decide +kernel)
set_option maxRecDepth 20000 in
theorem gX9_odds_X9_in : GoodIn wsX9_odds (va_wsS RX9 48 yX9_in wsX9_in) := goodIn_app (goodIn_of _ (by decide +kernel)) ggX9_odds_X9_in
set_option maxRecDepth 20000 in
theorem ggX9_odds_X9_roomOf : GoodIn wsX9_odds wsX9_roomOf := goodIn_r _ [11, 12, 25, 26, 27, 28, 29, 30, 31, 32, 33, 34, 35, 36, 37, 38, 39, 40, 41, 42, 43, 44, 45, 46] (by decide +kernel) (by decide +kernel)
set_option maxRecDepth 20000 in
theorem gX9_odds_X9_roomOf : GoodIn wsX9_odds (wsV RX9 122 RX9 yX9_roomOf wsX9_roomOf) := goodIn_app (goodIn_of _ (by decide +kernel)) ggX9_odds_X9_roomOf
set_option maxRecDepth 20000 in
theorem ggX9_odds_X9_more : GoodIn wsX9_odds wsX9_more := goodIn_r _ [16, 3, 17, 18, 19, 6, 20, 21, 22, 23, 24, 25, 26, 27, 28, 29, 30, 31, 32, 33, 34, 35, 36, 37, 38, 39, 40, 41, 42, 43, 44, 45, 46] (by decide +kernel) (by decide +kernel)
set_option maxRecDepth 20000 in
theorem gX9_odds_X9_more : GoodIn wsX9_odds (wsV RX9 130 RX9 yX9_more wsX9_more) := goodIn_app (goodIn_of _ (by decide +kernel)) ggX9_odds_X9_more
theorem dX9_odds_0 : decode cX9_odds 0 = .ok (.iload_n 1, 1) := by decide +kernel
theorem dX9_odds_1 : decode cX9_odds 1 = .ok (.i2l, 1) := by decide +kernel
theorem dX9_odds_2 : decode cX9_odds 2 = .ok (.lconst 0, 1) := by decide +kernel
theorem dX9_odds_3 : decode cX9_odds 3 = .ok (.ldc2_w 194, 3) := by decide +kernel
theorem dX9_odds_6 : decode cX9_odds 6 = .ok (.invokestatic 48, 3) := by decide +kernel
theorem dX9_odds_9 : decode cX9_odds 9 = .ok (.ifCond .eq 13, 3) := by decide +kernel
theorem dX9_odds_12 : decode cX9_odds 12 = .ok (.iload_n 2, 1) := by decide +kernel
theorem dX9_odds_13 : decode cX9_odds 13 = .ok (.i2l, 1) := by decide +kernel
theorem dX9_odds_14 : decode cX9_odds 14 = .ok (.lconst 0, 1) := by decide +kernel
theorem dX9_odds_15 : decode cX9_odds 15 = .ok (.lconst 1, 1) := by decide +kernel
theorem dX9_odds_16 : decode cX9_odds 16 = .ok (.invokestatic 48, 3) := by decide +kernel
theorem dX9_odds_19 : decode cX9_odds 19 = .ok (.ifCond .ne 7, 3) := by decide +kernel
theorem dX9_odds_22 : decode cX9_odds 22 = .ok (.ldc2_w 148, 3) := by decide +kernel
theorem dX9_odds_25 : decode cX9_odds 25 = .ok (.lreturn, 1) := by decide +kernel
theorem dX9_odds_26 : decode cX9_odds 26 = .ok (.lconst 1, 1) := by decide +kernel
theorem dX9_odds_27 : decode cX9_odds 27 = .ok (.lstore_n 3, 1) := by decide +kernel
theorem dX9_odds_28 : decode cX9_odds 28 = .ok (.lconst 1, 1) := by decide +kernel
theorem dX9_odds_29 : decode cX9_odds 29 = .ok (.lstore 5, 2) := by decide +kernel
theorem dX9_odds_31 : decode cX9_odds 31 = .ok (.iconst 0, 1) := by decide +kernel
theorem dX9_odds_32 : decode cX9_odds 32 = .ok (.istore 7, 2) := by decide +kernel
theorem dX9_odds_34 : decode cX9_odds 34 = .ok (.iload 7, 2) := by decide +kernel
theorem dX9_odds_36 : decode cX9_odds 36 = .ok (.aload_n 0, 1) := by decide +kernel
theorem dX9_odds_37 : decode cX9_odds 37 = .ok (.getfield 16, 3) := by decide +kernel
theorem dX9_odds_40 : decode cX9_odds 40 = .ok (.iconst 1, 1) := by decide +kernel
theorem dX9_odds_41 : decode cX9_odds 41 = .ok (.iaload, 1) := by decide +kernel
theorem dX9_odds_42 : decode cX9_odds 42 = .ok (.if_icmp .ge 72, 3) := by decide +kernel
theorem dX9_odds_45 : decode cX9_odds 45 = .ok (.aload_n 0, 1) := by decide +kernel
theorem dX9_odds_46 : decode cX9_odds 46 = .ok (.iload 7, 2) := by decide +kernel
theorem dX9_odds_48 : decode cX9_odds 48 = .ok (.invokevirtual 122, 3) := by decide +kernel
theorem dX9_odds_51 : decode cX9_odds 51 = .ok (.bipush (-9), 2) := by decide +kernel
theorem dX9_odds_53 : decode cX9_odds 53 = .ok (.if_icmp .eq 55, 3) := by decide +kernel
theorem dX9_odds_56 : decode cX9_odds 56 = .ok (.aload_n 0, 1) := by decide +kernel
theorem dX9_odds_57 : decode cX9_odds 57 = .ok (.iload 7, 2) := by decide +kernel
theorem dX9_odds_59 : decode cX9_odds 59 = .ok (.aload_n 0, 1) := by decide +kernel
theorem dX9_odds_60 : decode cX9_odds 60 = .ok (.iload 7, 2) := by decide +kernel
theorem dX9_odds_62 : decode cX9_odds 62 = .ok (.invokevirtual 122, 3) := by decide +kernel
theorem dX9_odds_65 : decode cX9_odds 65 = .ok (.invokevirtual 130, 3) := by decide +kernel
theorem dX9_odds_68 : decode cX9_odds 68 = .ok (.istore 8, 2) := by decide +kernel
theorem dX9_odds_70 : decode cX9_odds 70 = .ok (.lload_n 3, 1) := by decide +kernel
theorem dX9_odds_71 : decode cX9_odds 71 = .ok (.iload 8, 2) := by decide +kernel
theorem dX9_odds_73 : decode cX9_odds 73 = .ok (.iconst 2, 1) := by decide +kernel
theorem dX9_odds_74 : decode cX9_odds 74 = .ok (.if_icmp .lt 9, 3) := by decide +kernel
theorem dX9_odds_77 : decode cX9_odds 77 = .ok (.ldc2_w 194, 3) := by decide +kernel
theorem dX9_odds_80 : decode cX9_odds 80 = .ok (.goto 18, 3) := by decide +kernel
theorem dX9_odds_83 : decode cX9_odds 83 = .ok (.iload 8, 2) := by decide +kernel
theorem dX9_odds_85 : decode cX9_odds 85 = .ok (.ifCond .lt 12, 3) := by decide +kernel
theorem dX9_odds_88 : decode cX9_odds 88 = .ok (.ldc2_w 194, 3) := by decide +kernel
theorem dX9_odds_91 : decode cX9_odds 91 = .ok (.iload_n 1, 1) := by decide +kernel
theorem dX9_odds_92 : decode cX9_odds 92 = .ok (.i2l, 1) := by decide +kernel
theorem dX9_odds_93 : decode cX9_odds 93 = .ok (.lsub, 1) := by decide +kernel
theorem dX9_odds_94 : decode cX9_odds 94 = .ok (.goto 4, 3) := by decide +kernel
theorem dX9_odds_97 : decode cX9_odds 97 = .ok (.lconst 0, 1) := by decide +kernel
theorem dX9_odds_98 : decode cX9_odds 98 = .ok (.lmul, 1) := by decide +kernel
theorem dX9_odds_99 : decode cX9_odds 99 = .ok (.lstore_n 3, 1) := by decide +kernel
theorem dX9_odds_100 : decode cX9_odds 100 = .ok (.lload 5, 2) := by decide +kernel
theorem dX9_odds_102 : decode cX9_odds 102 = .ok (.ldc2_w 194, 3) := by decide +kernel
theorem dX9_odds_105 : decode cX9_odds 105 = .ok (.lmul, 1) := by decide +kernel
theorem dX9_odds_106 : decode cX9_odds 106 = .ok (.lstore 5, 2) := by decide +kernel
theorem dX9_odds_108 : decode cX9_odds 108 = .ok (.iinc 7 1, 3) := by decide +kernel
theorem dX9_odds_111 : decode cX9_odds 111 = .ok (.goto (-77), 3) := by decide +kernel
theorem dX9_odds_114 : decode cX9_odds 114 = .ok (.lload_n 3, 1) := by decide +kernel
theorem dX9_odds_115 : decode cX9_odds 115 = .ok (.lstore 7, 2) := by decide +kernel
theorem dX9_odds_117 : decode cX9_odds 117 = .ok (.lload 5, 2) := by decide +kernel
theorem dX9_odds_119 : decode cX9_odds 119 = .ok (.lstore 9, 2) := by decide +kernel
theorem dX9_odds_121 : decode cX9_odds 121 = .ok (.lload 9, 2) := by decide +kernel
theorem dX9_odds_123 : decode cX9_odds 123 = .ok (.lconst 0, 1) := by decide +kernel
theorem dX9_odds_124 : decode cX9_odds 124 = .ok (.lcmp, 1) := by decide +kernel
theorem dX9_odds_125 : decode cX9_odds 125 = .ok (.ifCond .eq 21, 3) := by decide +kernel
theorem dX9_odds_128 : decode cX9_odds 128 = .ok (.lload 7, 2) := by decide +kernel
theorem dX9_odds_130 : decode cX9_odds 130 = .ok (.lload 9, 2) := by decide +kernel
theorem dX9_odds_132 : decode cX9_odds 132 = .ok (.lrem, 1) := by decide +kernel
theorem dX9_odds_133 : decode cX9_odds 133 = .ok (.lstore 11, 2) := by decide +kernel
theorem dX9_odds_135 : decode cX9_odds 135 = .ok (.lload 9, 2) := by decide +kernel
theorem dX9_odds_137 : decode cX9_odds 137 = .ok (.lstore 7, 2) := by decide +kernel
theorem dX9_odds_139 : decode cX9_odds 139 = .ok (.lload 11, 2) := by decide +kernel
theorem dX9_odds_141 : decode cX9_odds 141 = .ok (.lstore 9, 2) := by decide +kernel
theorem dX9_odds_143 : decode cX9_odds 143 = .ok (.goto (-22), 3) := by decide +kernel
theorem dX9_odds_146 : decode cX9_odds 146 = .ok (.iload_n 2, 1) := by decide +kernel
theorem dX9_odds_147 : decode cX9_odds 147 = .ok (.ifCond .ne 10, 3) := by decide +kernel
theorem dX9_odds_150 : decode cX9_odds 150 = .ok (.lload_n 3, 1) := by decide +kernel
theorem dX9_odds_151 : decode cX9_odds 151 = .ok (.lload 7, 2) := by decide +kernel
theorem dX9_odds_153 : decode cX9_odds 153 = .ok (.ldiv, 1) := by decide +kernel
theorem dX9_odds_154 : decode cX9_odds 154 = .ok (.goto 8, 3) := by decide +kernel
theorem dX9_odds_157 : decode cX9_odds 157 = .ok (.lload 5, 2) := by decide +kernel
theorem dX9_odds_159 : decode cX9_odds 159 = .ok (.lload 7, 2) := by decide +kernel
theorem dX9_odds_161 : decode cX9_odds 161 = .ok (.ldiv, 1) := by decide +kernel
theorem dX9_odds_162 : decode cX9_odds 162 = .ok (.lreturn, 1) := by decide +kernel
set_option maxRecDepth 20000 in
theorem ggX9_book_X9_isTenant : GoodIn wsX9_book wsX9_isTenant := goodIn_r _ [9, 10, 11, 12, 8, 13, 14, 15, 16, 17, 18, 19, 20, 21, 22, 23, 24, 25, 26, 27, 28, 29, 30, 31, 32, 33, 34, 35] (by decide +kernel) (by decide +kernel)
set_option maxRecDepth 20000 in
theorem gX9_book_X9_isTenant : GoodIn wsX9_book (wsV RX9 137 RX9 yX9_isTenant wsX9_isTenant) := goodIn_app (goodIn_of _ (by decide +kernel)) ggX9_book_X9_isTenant
set_option maxRecDepth 20000 in
theorem ggX9_book_X9_in : GoodIn wsX9_book wsX9_in := goodIn_r _ [13] (by decide +kernel) (by decide +kernel)
set_option maxRecDepth 20000 in
theorem gX9_book_X9_in : GoodIn wsX9_book (va_wsS RX9 48 yX9_in wsX9_in) := goodIn_app (goodIn_of _ (by decide +kernel)) ggX9_book_X9_in
theorem dX9_book_0 : decode cX9_book 0 = .ok (.aload_n 0, 1) := by decide +kernel
theorem dX9_book_1 : decode cX9_book 1 = .ok (.iload_n 1, 1) := by decide +kernel
theorem dX9_book_2 : decode cX9_book 2 = .ok (.invokevirtual 137, 3) := by decide +kernel
theorem dX9_book_5 : decode cX9_book 5 = .ok (.ifCond .eq 15, 3) := by decide +kernel
theorem dX9_book_8 : decode cX9_book 8 = .ok (.iload_n 2, 1) := by decide +kernel
theorem dX9_book_9 : decode cX9_book 9 = .ok (.i2l, 1) := by decide +kernel
theorem dX9_book_10 : decode cX9_book 10 = .ok (.lconst 0, 1) := by decide +kernel
theorem dX9_book_11 : decode cX9_book 11 = .ok (.ldc2_w 153, 3) := by decide +kernel
theorem dX9_book_14 : decode cX9_book 14 = .ok (.invokestatic 48, 3) := by decide +kernel
theorem dX9_book_17 : decode cX9_book 17 = .ok (.ifCond .ne 5, 3) := by decide +kernel
theorem dX9_book_20 : decode cX9_book 20 = .ok (.iconst (-1), 1) := by decide +kernel
theorem dX9_book_21 : decode cX9_book 21 = .ok (.ireturn, 1) := by decide +kernel
theorem dX9_book_22 : decode cX9_book 22 = .ok (.aload_n 0, 1) := by decide +kernel
theorem dX9_book_23 : decode cX9_book 23 = .ok (.getfield 109, 3) := by decide +kernel
theorem dX9_book_26 : decode cX9_book 26 = .ok (.bipush 6, 2) := by decide +kernel
theorem dX9_book_28 : decode cX9_book 28 = .ok (.if_icmp .ne 6, 3) := by decide +kernel
theorem dX9_book_31 : decode cX9_book 31 = .ok (.bipush (-3), 2) := by decide +kernel
theorem dX9_book_33 : decode cX9_book 33 = .ok (.ireturn, 1) := by decide +kernel
theorem dX9_book_34 : decode cX9_book 34 = .ok (.aload_n 0, 1) := by decide +kernel
theorem dX9_book_35 : decode cX9_book 35 = .ok (.getfield 31, 3) := by decide +kernel
theorem dX9_book_38 : decode cX9_book 38 = .ok (.aload_n 0, 1) := by decide +kernel
theorem dX9_book_39 : decode cX9_book 39 = .ok (.getfield 109, 3) := by decide +kernel
theorem dX9_book_42 : decode cX9_book 42 = .ok (.iload_n 1, 1) := by decide +kernel
theorem dX9_book_43 : decode cX9_book 43 = .ok (.iastore, 1) := by decide +kernel
theorem dX9_book_44 : decode cX9_book 44 = .ok (.aload_n 0, 1) := by decide +kernel
theorem dX9_book_45 : decode cX9_book 45 = .ok (.getfield 34, 3) := by decide +kernel
theorem dX9_book_48 : decode cX9_book 48 = .ok (.aload_n 0, 1) := by decide +kernel
theorem dX9_book_49 : decode cX9_book 49 = .ok (.getfield 109, 3) := by decide +kernel
theorem dX9_book_52 : decode cX9_book 52 = .ok (.iload_n 2, 1) := by decide +kernel
theorem dX9_book_53 : decode cX9_book 53 = .ok (.iastore, 1) := by decide +kernel
theorem dX9_book_54 : decode cX9_book 54 = .ok (.aload_n 0, 1) := by decide +kernel
theorem dX9_book_55 : decode cX9_book 55 = .ok (.dup, 1) := by decide +kernel
theorem dX9_book_56 : decode cX9_book 56 = .ok (.getfield 109, 3) := by decide +kernel
theorem dX9_book_59 : decode cX9_book 59 = .ok (.iconst 1, 1) := by decide +kernel
theorem dX9_book_60 : decode cX9_book 60 = .ok (.iadd, 1) := by decide +kernel
theorem dX9_book_61 : decode cX9_book 61 = .ok (.putfield 109, 3) := by decide +kernel
theorem dX9_book_64 : decode cX9_book 64 = .ok (.aload_n 0, 1) := by decide +kernel
theorem dX9_book_65 : decode cX9_book 65 = .ok (.getfield 109, 3) := by decide +kernel
theorem dX9_book_68 : decode cX9_book 68 = .ok (.ireturn, 1) := by decide +kernel
theorem dX9_burn_0 : decode cX9_burn 0 = .ok (.aload_n 0, 1) := by decide +kernel
theorem dX9_burn_1 : decode cX9_burn 1 = .ok (.getfield 109, 3) := by decide +kernel
theorem dX9_burn_4 : decode cX9_burn 4 = .ok (.istore_n 1, 1) := by decide +kernel
theorem dX9_burn_5 : decode cX9_burn 5 = .ok (.aload_n 0, 1) := by decide +kernel
theorem dX9_burn_6 : decode cX9_burn 6 = .ok (.iconst 0, 1) := by decide +kernel
theorem dX9_burn_7 : decode cX9_burn 7 = .ok (.putfield 109, 3) := by decide +kernel
theorem dX9_burn_10 : decode cX9_burn 10 = .ok (.iload_n 1, 1) := by decide +kernel
theorem dX9_burn_11 : decode cX9_burn 11 = .ok (.ireturn, 1) := by decide +kernel
set_option maxRecDepth 20000 in
theorem ggX9_isSo_X9_more : GoodIn wsX9_isSo wsX9_more := goodIn_r _ [8, 9, 10, 11, 12, 7, 13, 14, 15, 16, 17, 18, 19, 20, 21, 22, 23, 24, 25, 26, 27, 28, 29, 30, 31, 32, 33, 34, 35, 36, 37, 38, 39] (by decide +kernel) (by decide +kernel)
set_option maxRecDepth 20000 in
theorem gX9_isSo_X9_more : GoodIn wsX9_isSo (wsV RX9 130 RX9 yX9_more wsX9_more) := goodIn_app (goodIn_of _ (by decide +kernel)) ggX9_isSo_X9_more
theorem dX9_isSo_0 : decode cX9_isSo 0 = .ok (.aload_n 0, 1) := by decide +kernel
theorem dX9_isSo_1 : decode cX9_isSo 1 = .ok (.iload_n 1, 1) := by decide +kernel
theorem dX9_isSo_2 : decode cX9_isSo 2 = .ok (.iload_n 2, 1) := by decide +kernel
theorem dX9_isSo_3 : decode cX9_isSo 3 = .ok (.invokevirtual 130, 3) := by decide +kernel
theorem dX9_isSo_6 : decode cX9_isSo 6 = .ok (.ifCond .ge 13, 3) := by decide +kernel
theorem dX9_isSo_9 : decode cX9_isSo 9 = .ok (.aload_n 0, 1) := by decide +kernel
theorem dX9_isSo_10 : decode cX9_isSo 10 = .ok (.iload_n 1, 1) := by decide +kernel
theorem dX9_isSo_11 : decode cX9_isSo 11 = .ok (.iload_n 2, 1) := by decide +kernel
theorem dX9_isSo_12 : decode cX9_isSo 12 = .ok (.invokevirtual 130, 3) := by decide +kernel
theorem dX9_isSo_15 : decode cX9_isSo 15 = .ok (.ineg, 1) := by decide +kernel
theorem dX9_isSo_16 : decode cX9_isSo 16 = .ok (.goto 4, 3) := by decide +kernel
theorem dX9_isSo_19 : decode cX9_isSo 19 = .ok (.iconst 0, 1) := by decide +kernel
theorem dX9_isSo_20 : decode cX9_isSo 20 = .ok (.istore_n 3, 1) := by decide +kernel
theorem dX9_isSo_21 : decode cX9_isSo 21 = .ok (.iconst 1, 1) := by decide +kernel
theorem dX9_isSo_22 : decode cX9_isSo 22 = .ok (.istore 4, 2) := by decide +kernel
theorem dX9_isSo_24 : decode cX9_isSo 24 = .ok (.iconst 0, 1) := by decide +kernel
theorem dX9_isSo_25 : decode cX9_isSo 25 = .ok (.istore 5, 2) := by decide +kernel
theorem dX9_isSo_27 : decode cX9_isSo 27 = .ok (.iload 5, 2) := by decide +kernel
theorem dX9_isSo_29 : decode cX9_isSo 29 = .ok (.aload_n 0, 1) := by decide +kernel
theorem dX9_isSo_30 : decode cX9_isSo 30 = .ok (.getfield 109, 3) := by decide +kernel
theorem dX9_isSo_33 : decode cX9_isSo 33 = .ok (.if_icmp .ge 43, 3) := by decide +kernel
theorem dX9_isSo_36 : decode cX9_isSo 36 = .ok (.iload 4, 2) := by decide +kernel
theorem dX9_isSo_38 : decode cX9_isSo 38 = .ok (.ifCond .eq 29, 3) := by decide +kernel
theorem dX9_isSo_41 : decode cX9_isSo 41 = .ok (.aload_n 0, 1) := by decide +kernel
theorem dX9_isSo_42 : decode cX9_isSo 42 = .ok (.getfield 31, 3) := by decide +kernel
theorem dX9_isSo_45 : decode cX9_isSo 45 = .ok (.iload 5, 2) := by decide +kernel
theorem dX9_isSo_47 : decode cX9_isSo 47 = .ok (.iaload, 1) := by decide +kernel
theorem dX9_isSo_48 : decode cX9_isSo 48 = .ok (.iload_n 1, 1) := by decide +kernel
theorem dX9_isSo_49 : decode cX9_isSo 49 = .ok (.if_icmp .ne 14, 3) := by decide +kernel
theorem dX9_isSo_52 : decode cX9_isSo 52 = .ok (.aload_n 0, 1) := by decide +kernel
theorem dX9_isSo_53 : decode cX9_isSo 53 = .ok (.getfield 34, 3) := by decide +kernel
theorem dX9_isSo_56 : decode cX9_isSo 56 = .ok (.iload 5, 2) := by decide +kernel
theorem dX9_isSo_58 : decode cX9_isSo 58 = .ok (.iaload, 1) := by decide +kernel
theorem dX9_isSo_59 : decode cX9_isSo 59 = .ok (.iload_n 3, 1) := by decide +kernel
theorem dX9_isSo_60 : decode cX9_isSo 60 = .ok (.if_icmp .ne 7, 3) := by decide +kernel
theorem dX9_isSo_63 : decode cX9_isSo 63 = .ok (.iconst 1, 1) := by decide +kernel
theorem dX9_isSo_64 : decode cX9_isSo 64 = .ok (.goto 4, 3) := by decide +kernel
theorem dX9_isSo_67 : decode cX9_isSo 67 = .ok (.iconst 0, 1) := by decide +kernel
theorem dX9_isSo_68 : decode cX9_isSo 68 = .ok (.istore 4, 2) := by decide +kernel
theorem dX9_isSo_70 : decode cX9_isSo 70 = .ok (.iinc 5 1, 3) := by decide +kernel
theorem dX9_isSo_73 : decode cX9_isSo 73 = .ok (.goto (-46), 3) := by decide +kernel
theorem dX9_isSo_76 : decode cX9_isSo 76 = .ok (.iload 4, 2) := by decide +kernel
theorem dX9_isSo_78 : decode cX9_isSo 78 = .ok (.ireturn, 1) := by decide +kernel
set_option maxRecDepth 20000 in
theorem ggX9_fit_X9_power : GoodIn wsX9_fit wsX9_power := goodIn_r _ [8] (by decide +kernel) (by decide +kernel)
set_option maxRecDepth 20000 in
theorem gX9_fit_X9_power : GoodIn wsX9_fit (va_wsS RX9 164 yX9_power wsX9_power) := goodIn_app (goodIn_of _ (by decide +kernel)) ggX9_fit_X9_power
set_option maxRecDepth 20000 in
theorem ggX9_fit_X9_isSo : GoodIn wsX9_fit wsX9_isSo := goodIn_r _ [12, 13, 14, 15, 16, 17, 18, 7, 19, 1, 20, 21, 22, 23, 24, 25, 26, 27, 28, 29, 30, 31, 32, 33, 34, 35, 36, 37, 38, 39, 40, 41, 42, 43, 44, 45, 46, 47, 48, 49] (by decide +kernel) (by decide +kernel)
set_option maxRecDepth 20000 in
theorem gX9_fit_X9_isSo : GoodIn wsX9_fit (wsV RX9 199 RX9 yX9_isSo wsX9_isSo) := goodIn_app (goodIn_of _ (by decide +kernel)) ggX9_fit_X9_isSo
theorem dX9_fit_0 : decode cX9_fit 0 = .ok (.aload_n 0, 1) := by decide +kernel
theorem dX9_fit_1 : decode cX9_fit 1 = .ok (.getfield 16, 3) := by decide +kernel
theorem dX9_fit_4 : decode cX9_fit 4 = .ok (.iconst 0, 1) := by decide +kernel
theorem dX9_fit_5 : decode cX9_fit 5 = .ok (.iaload, 1) := by decide +kernel
theorem dX9_fit_6 : decode cX9_fit 6 = .ok (.ifCond .ne 16, 3) := by decide +kernel
theorem dX9_fit_9 : decode cX9_fit 9 = .ok (.aload_n 0, 1) := by decide +kernel
theorem dX9_fit_10 : decode cX9_fit 10 = .ok (.getfield 16, 3) := by decide +kernel
theorem dX9_fit_13 : decode cX9_fit 13 = .ok (.iconst 1, 1) := by decide +kernel
theorem dX9_fit_14 : decode cX9_fit 14 = .ok (.iaload, 1) := by decide +kernel
theorem dX9_fit_15 : decode cX9_fit 15 = .ok (.ifCond .le 7, 3) := by decide +kernel
theorem dX9_fit_18 : decode cX9_fit 18 = .ok (.iconst 0, 1) := by decide +kernel
theorem dX9_fit_19 : decode cX9_fit 19 = .ok (.goto 18, 3) := by decide +kernel
theorem dX9_fit_22 : decode cX9_fit 22 = .ok (.aload_n 0, 1) := by decide +kernel
theorem dX9_fit_23 : decode cX9_fit 23 = .ok (.getfield 16, 3) := by decide +kernel
theorem dX9_fit_26 : decode cX9_fit 26 = .ok (.iconst 0, 1) := by decide +kernel
theorem dX9_fit_27 : decode cX9_fit 27 = .ok (.iaload, 1) := by decide +kernel
theorem dX9_fit_28 : decode cX9_fit 28 = .ok (.aload_n 0, 1) := by decide +kernel
theorem dX9_fit_29 : decode cX9_fit 29 = .ok (.getfield 16, 3) := by decide +kernel
theorem dX9_fit_32 : decode cX9_fit 32 = .ok (.iconst 1, 1) := by decide +kernel
theorem dX9_fit_33 : decode cX9_fit 33 = .ok (.iaload, 1) := by decide +kernel
theorem dX9_fit_34 : decode cX9_fit 34 = .ok (.invokestatic 164, 3) := by decide +kernel
theorem dX9_fit_37 : decode cX9_fit 37 = .ok (.istore_n 1, 1) := by decide +kernel
theorem dX9_fit_38 : decode cX9_fit 38 = .ok (.aload_n 0, 1) := by decide +kernel
theorem dX9_fit_39 : decode cX9_fit 39 = .ok (.iconst 0, 1) := by decide +kernel
theorem dX9_fit_40 : decode cX9_fit 40 = .ok (.putfield 196, 3) := by decide +kernel
theorem dX9_fit_43 : decode cX9_fit 43 = .ok (.iconst 0, 1) := by decide +kernel
theorem dX9_fit_44 : decode cX9_fit 44 = .ok (.istore_n 2, 1) := by decide +kernel
theorem dX9_fit_45 : decode cX9_fit 45 = .ok (.iload_n 2, 1) := by decide +kernel
theorem dX9_fit_46 : decode cX9_fit 46 = .ok (.bipush 6, 2) := by decide +kernel
theorem dX9_fit_48 : decode cX9_fit 48 = .ok (.if_icmp .ge 24, 3) := by decide +kernel
theorem dX9_fit_51 : decode cX9_fit 51 = .ok (.aload_n 0, 1) := by decide +kernel
theorem dX9_fit_52 : decode cX9_fit 52 = .ok (.getfield 25, 3) := by decide +kernel
theorem dX9_fit_55 : decode cX9_fit 55 = .ok (.iload_n 2, 1) := by decide +kernel
theorem dX9_fit_56 : decode cX9_fit 56 = .ok (.bipush (-9), 2) := by decide +kernel
theorem dX9_fit_58 : decode cX9_fit 58 = .ok (.iastore, 1) := by decide +kernel
theorem dX9_fit_59 : decode cX9_fit 59 = .ok (.aload_n 0, 1) := by decide +kernel
theorem dX9_fit_60 : decode cX9_fit 60 = .ok (.getfield 37, 3) := by decide +kernel
theorem dX9_fit_63 : decode cX9_fit 63 = .ok (.iload_n 2, 1) := by decide +kernel
theorem dX9_fit_64 : decode cX9_fit 64 = .ok (.iconst 0, 1) := by decide +kernel
theorem dX9_fit_65 : decode cX9_fit 65 = .ok (.iastore, 1) := by decide +kernel
theorem dX9_fit_66 : decode cX9_fit 66 = .ok (.iinc 2 1, 3) := by decide +kernel
theorem dX9_fit_69 : decode cX9_fit 69 = .ok (.goto (-24), 3) := by decide +kernel
theorem dX9_fit_72 : decode cX9_fit 72 = .ok (.iconst 0, 1) := by decide +kernel
theorem dX9_fit_73 : decode cX9_fit 73 = .ok (.istore_n 2, 1) := by decide +kernel
theorem dX9_fit_74 : decode cX9_fit 74 = .ok (.iload_n 2, 1) := by decide +kernel
theorem dX9_fit_75 : decode cX9_fit 75 = .ok (.iload_n 1, 1) := by decide +kernel
theorem dX9_fit_76 : decode cX9_fit 76 = .ok (.if_icmp .ge 205, 3) := by decide +kernel
theorem dX9_fit_79 : decode cX9_fit 79 = .ok (.iload_n 2, 1) := by decide +kernel
theorem dX9_fit_80 : decode cX9_fit 80 = .ok (.istore_n 3, 1) := by decide +kernel
theorem dX9_fit_81 : decode cX9_fit 81 = .ok (.iconst 0, 1) := by decide +kernel
theorem dX9_fit_82 : decode cX9_fit 82 = .ok (.istore 4, 2) := by decide +kernel
theorem dX9_fit_84 : decode cX9_fit 84 = .ok (.iconst 1, 1) := by decide +kernel
theorem dX9_fit_85 : decode cX9_fit 85 = .ok (.istore 5, 2) := by decide +kernel
theorem dX9_fit_87 : decode cX9_fit 87 = .ok (.aload_n 0, 1) := by decide +kernel
theorem dX9_fit_88 : decode cX9_fit 88 = .ok (.getfield 16, 3) := by decide +kernel
theorem dX9_fit_91 : decode cX9_fit 91 = .ok (.iconst 1, 1) := by decide +kernel
theorem dX9_fit_92 : decode cX9_fit 92 = .ok (.iaload, 1) := by decide +kernel
theorem dX9_fit_93 : decode cX9_fit 93 = .ok (.iconst 1, 1) := by decide +kernel
theorem dX9_fit_94 : decode cX9_fit 94 = .ok (.isub, 1) := by decide +kernel
theorem dX9_fit_95 : decode cX9_fit 95 = .ok (.istore 6, 2) := by decide +kernel
theorem dX9_fit_97 : decode cX9_fit 97 = .ok (.iload 6, 2) := by decide +kernel
theorem dX9_fit_99 : decode cX9_fit 99 = .ok (.ifCond .lt 70, 3) := by decide +kernel
theorem dX9_fit_102 : decode cX9_fit 102 = .ok (.iload 5, 2) := by decide +kernel
theorem dX9_fit_104 : decode cX9_fit 104 = .ok (.ifCond .eq 65, 3) := by decide +kernel
theorem dX9_fit_107 : decode cX9_fit 107 = .ok (.iload_n 3, 1) := by decide +kernel
theorem dX9_fit_108 : decode cX9_fit 108 = .ok (.aload_n 0, 1) := by decide +kernel
theorem dX9_fit_109 : decode cX9_fit 109 = .ok (.getfield 16, 3) := by decide +kernel
theorem dX9_fit_112 : decode cX9_fit 112 = .ok (.iconst 0, 1) := by decide +kernel
theorem dX9_fit_113 : decode cX9_fit 113 = .ok (.iaload, 1) := by decide +kernel
theorem dX9_fit_114 : decode cX9_fit 114 = .ok (.irem, 1) := by decide +kernel
theorem dX9_fit_115 : decode cX9_fit 115 = .ok (.istore 7, 2) := by decide +kernel
theorem dX9_fit_117 : decode cX9_fit 117 = .ok (.iload_n 3, 1) := by decide +kernel
theorem dX9_fit_118 : decode cX9_fit 118 = .ok (.aload_n 0, 1) := by decide +kernel
theorem dX9_fit_119 : decode cX9_fit 119 = .ok (.getfield 16, 3) := by decide +kernel
theorem dX9_fit_122 : decode cX9_fit 122 = .ok (.iconst 0, 1) := by decide +kernel
theorem dX9_fit_123 : decode cX9_fit 123 = .ok (.iaload, 1) := by decide +kernel
theorem dX9_fit_124 : decode cX9_fit 124 = .ok (.idiv, 1) := by decide +kernel
theorem dX9_fit_125 : decode cX9_fit 125 = .ok (.istore_n 3, 1) := by decide +kernel
theorem dX9_fit_126 : decode cX9_fit 126 = .ok (.iload 4, 2) := by decide +kernel
theorem dX9_fit_128 : decode cX9_fit 128 = .ok (.iload 7, 2) := by decide +kernel
theorem dX9_fit_130 : decode cX9_fit 130 = .ok (.ishr, 1) := by decide +kernel
theorem dX9_fit_131 : decode cX9_fit 131 = .ok (.iconst 1, 1) := by decide +kernel
theorem dX9_fit_132 : decode cX9_fit 132 = .ok (.iand, 1) := by decide +kernel
theorem dX9_fit_133 : decode cX9_fit 133 = .ok (.ifCond .ne 18, 3) := by decide +kernel
theorem dX9_fit_136 : decode cX9_fit 136 = .ok (.aload_n 0, 1) := by decide +kernel
theorem dX9_fit_137 : decode cX9_fit 137 = .ok (.iload 6, 2) := by decide +kernel
theorem dX9_fit_139 : decode cX9_fit 139 = .ok (.iload 7, 2) := by decide +kernel
theorem dX9_fit_141 : decode cX9_fit 141 = .ok (.invokevirtual 199, 3) := by decide +kernel
theorem dX9_fit_144 : decode cX9_fit 144 = .ok (.ifCond .eq 7, 3) := by decide +kernel
theorem dX9_fit_147 : decode cX9_fit 147 = .ok (.iconst 1, 1) := by decide +kernel
theorem dX9_fit_148 : decode cX9_fit 148 = .ok (.goto 4, 3) := by decide +kernel
theorem dX9_fit_151 : decode cX9_fit 151 = .ok (.iconst 0, 1) := by decide +kernel
theorem dX9_fit_152 : decode cX9_fit 152 = .ok (.istore 5, 2) := by decide +kernel
theorem dX9_fit_154 : decode cX9_fit 154 = .ok (.iload 4, 2) := by decide +kernel
theorem dX9_fit_156 : decode cX9_fit 156 = .ok (.iconst 1, 1) := by decide +kernel
theorem dX9_fit_157 : decode cX9_fit 157 = .ok (.iload 7, 2) := by decide +kernel
theorem dX9_fit_159 : decode cX9_fit 159 = .ok (.ishl, 1) := by decide +kernel
theorem dX9_fit_160 : decode cX9_fit 160 = .ok (.ior, 1) := by decide +kernel
theorem dX9_fit_161 : decode cX9_fit 161 = .ok (.istore 4, 2) := by decide +kernel
theorem dX9_fit_163 : decode cX9_fit 163 = .ok (.iinc 6 (-1), 3) := by decide +kernel
theorem dX9_fit_166 : decode cX9_fit 166 = .ok (.goto (-69), 3) := by decide +kernel
theorem dX9_fit_169 : decode cX9_fit 169 = .ok (.iload_n 2, 1) := by decide +kernel
theorem dX9_fit_170 : decode cX9_fit 170 = .ok (.istore_n 3, 1) := by decide +kernel
theorem dX9_fit_171 : decode cX9_fit 171 = .ok (.aload_n 0, 1) := by decide +kernel
theorem dX9_fit_172 : decode cX9_fit 172 = .ok (.getfield 16, 3) := by decide +kernel
theorem dX9_fit_175 : decode cX9_fit 175 = .ok (.iconst 1, 1) := by decide +kernel
theorem dX9_fit_176 : decode cX9_fit 176 = .ok (.iaload, 1) := by decide +kernel
theorem dX9_fit_177 : decode cX9_fit 177 = .ok (.iconst 1, 1) := by decide +kernel
theorem dX9_fit_178 : decode cX9_fit 178 = .ok (.isub, 1) := by decide +kernel
theorem dX9_fit_179 : decode cX9_fit 179 = .ok (.istore 6, 2) := by decide +kernel
theorem dX9_fit_181 : decode cX9_fit 181 = .ok (.iload 6, 2) := by decide +kernel
theorem dX9_fit_183 : decode cX9_fit 183 = .ok (.ifCond .lt 73, 3) := by decide +kernel
theorem dX9_fit_186 : decode cX9_fit 186 = .ok (.iload 5, 2) := by decide +kernel
theorem dX9_fit_188 : decode cX9_fit 188 = .ok (.ifCond .eq 68, 3) := by decide +kernel
theorem dX9_fit_191 : decode cX9_fit 191 = .ok (.iload_n 3, 1) := by decide +kernel
theorem dX9_fit_192 : decode cX9_fit 192 = .ok (.aload_n 0, 1) := by decide +kernel
theorem dX9_fit_193 : decode cX9_fit 193 = .ok (.getfield 16, 3) := by decide +kernel
theorem dX9_fit_196 : decode cX9_fit 196 = .ok (.iconst 0, 1) := by decide +kernel
theorem dX9_fit_197 : decode cX9_fit 197 = .ok (.iaload, 1) := by decide +kernel
theorem dX9_fit_198 : decode cX9_fit 198 = .ok (.irem, 1) := by decide +kernel
theorem dX9_fit_199 : decode cX9_fit 199 = .ok (.istore 7, 2) := by decide +kernel
theorem dX9_fit_201 : decode cX9_fit 201 = .ok (.iload_n 3, 1) := by decide +kernel
theorem dX9_fit_202 : decode cX9_fit 202 = .ok (.aload_n 0, 1) := by decide +kernel
theorem dX9_fit_203 : decode cX9_fit 203 = .ok (.getfield 16, 3) := by decide +kernel
theorem dX9_fit_206 : decode cX9_fit 206 = .ok (.iconst 0, 1) := by decide +kernel
theorem dX9_fit_207 : decode cX9_fit 207 = .ok (.iaload, 1) := by decide +kernel
theorem dX9_fit_208 : decode cX9_fit 208 = .ok (.idiv, 1) := by decide +kernel
theorem dX9_fit_209 : decode cX9_fit 209 = .ok (.istore_n 3, 1) := by decide +kernel
theorem dX9_fit_210 : decode cX9_fit 210 = .ok (.aload_n 0, 1) := by decide +kernel
theorem dX9_fit_211 : decode cX9_fit 211 = .ok (.getfield 37, 3) := by decide +kernel
theorem dX9_fit_214 : decode cX9_fit 214 = .ok (.iload 6, 2) := by decide +kernel
theorem dX9_fit_216 : decode cX9_fit 216 = .ok (.dup2, 1) := by decide +kernel
theorem dX9_fit_217 : decode cX9_fit 217 = .ok (.iaload, 1) := by decide +kernel
theorem dX9_fit_218 : decode cX9_fit 218 = .ok (.iconst 1, 1) := by decide +kernel
theorem dX9_fit_219 : decode cX9_fit 219 = .ok (.iload 7, 2) := by decide +kernel
theorem dX9_fit_221 : decode cX9_fit 221 = .ok (.ishl, 1) := by decide +kernel
theorem dX9_fit_222 : decode cX9_fit 222 = .ok (.ior, 1) := by decide +kernel
theorem dX9_fit_223 : decode cX9_fit 223 = .ok (.iastore, 1) := by decide +kernel
theorem dX9_fit_224 : decode cX9_fit 224 = .ok (.aload_n 0, 1) := by decide +kernel
theorem dX9_fit_225 : decode cX9_fit 225 = .ok (.getfield 25, 3) := by decide +kernel
theorem dX9_fit_228 : decode cX9_fit 228 = .ok (.iload 6, 2) := by decide +kernel
theorem dX9_fit_230 : decode cX9_fit 230 = .ok (.aload_n 0, 1) := by decide +kernel
theorem dX9_fit_231 : decode cX9_fit 231 = .ok (.getfield 196, 3) := by decide +kernel
theorem dX9_fit_234 : decode cX9_fit 234 = .ok (.ifCond .ne 8, 3) := by decide +kernel
theorem dX9_fit_237 : decode cX9_fit 237 = .ok (.iload 7, 2) := by decide +kernel
theorem dX9_fit_239 : decode cX9_fit 239 = .ok (.goto 10, 3) := by decide +kernel
theorem dX9_fit_242 : decode cX9_fit 242 = .ok (.aload_n 0, 1) := by decide +kernel
theorem dX9_fit_243 : decode cX9_fit 243 = .ok (.getfield 25, 3) := by decide +kernel
theorem dX9_fit_246 : decode cX9_fit 246 = .ok (.iload 6, 2) := by decide +kernel
theorem dX9_fit_248 : decode cX9_fit 248 = .ok (.iaload, 1) := by decide +kernel
theorem dX9_fit_249 : decode cX9_fit 249 = .ok (.iastore, 1) := by decide +kernel
theorem dX9_fit_250 : decode cX9_fit 250 = .ok (.iinc 6 (-1), 3) := by decide +kernel
theorem dX9_fit_253 : decode cX9_fit 253 = .ok (.goto (-72), 3) := by decide +kernel
theorem dX9_fit_256 : decode cX9_fit 256 = .ok (.aload_n 0, 1) := by decide +kernel
theorem dX9_fit_257 : decode cX9_fit 257 = .ok (.dup, 1) := by decide +kernel
theorem dX9_fit_258 : decode cX9_fit 258 = .ok (.getfield 196, 3) := by decide +kernel
theorem dX9_fit_261 : decode cX9_fit 261 = .ok (.iload 5, 2) := by decide +kernel
theorem dX9_fit_263 : decode cX9_fit 263 = .ok (.ifCond .eq 7, 3) := by decide +kernel
theorem dX9_fit_266 : decode cX9_fit 266 = .ok (.iconst 1, 1) := by decide +kernel
theorem dX9_fit_267 : decode cX9_fit 267 = .ok (.goto 4, 3) := by decide +kernel
theorem dX9_fit_270 : decode cX9_fit 270 = .ok (.iconst 0, 1) := by decide +kernel
theorem dX9_fit_271 : decode cX9_fit 271 = .ok (.iadd, 1) := by decide +kernel
theorem dX9_fit_272 : decode cX9_fit 272 = .ok (.putfield 196, 3) := by decide +kernel
theorem dX9_fit_275 : decode cX9_fit 275 = .ok (.iinc 2 1, 3) := by decide +kernel
theorem dX9_fit_278 : decode cX9_fit 278 = .ok (.goto (-204), 3) := by decide +kernel
theorem dX9_fit_281 : decode cX9_fit 281 = .ok (.return_, 1) := by decide +kernel
set_option maxRecDepth 20000 in
theorem ggX9_fits_X9_in : GoodIn wsX9_fits wsX9_in := goodIn_r _ [8] (by decide +kernel) (by decide +kernel)
set_option maxRecDepth 20000 in
theorem gX9_fits_X9_in : GoodIn wsX9_fits (va_wsS RX9 48 yX9_in wsX9_in) := goodIn_app (goodIn_of _ (by decide +kernel)) ggX9_fits_X9_in
set_option maxRecDepth 20000 in
theorem ggX9_fits_X9_fit : GoodIn wsX9_fits wsX9_fit := goodIn_r _ [12, 2, 3, 4, 13, 14, 15, 7, 16, 17, 18, 19, 20, 21, 22, 23, 24, 25, 26, 27, 28, 29, 30, 31, 32, 33, 34, 35, 36, 37, 38, 39, 40, 41, 42, 43, 44, 45, 46, 47, 48, 49, 50, 51, 52, 53, 54, 55, 56, 57] (by decide +kernel) (by decide +kernel)
set_option maxRecDepth 20000 in
theorem gX9_fits_X9_fit : GoodIn wsX9_fits (wsV RX9 202 RX9 yX9_fit wsX9_fit) := goodIn_app (goodIn_of _ (by decide +kernel)) ggX9_fits_X9_fit
theorem dX9_fits_0 : decode cX9_fits 0 = .ok (.iload_n 1, 1) := by decide +kernel
theorem dX9_fits_1 : decode cX9_fits 1 = .ok (.i2l, 1) := by decide +kernel
theorem dX9_fits_2 : decode cX9_fits 2 = .ok (.ldc2_w 148, 3) := by decide +kernel
theorem dX9_fits_5 : decode cX9_fits 5 = .ok (.aload_n 0, 1) := by decide +kernel
theorem dX9_fits_6 : decode cX9_fits 6 = .ok (.getfield 16, 3) := by decide +kernel
theorem dX9_fits_9 : decode cX9_fits 9 = .ok (.iconst 1, 1) := by decide +kernel
theorem dX9_fits_10 : decode cX9_fits 10 = .ok (.iaload, 1) := by decide +kernel
theorem dX9_fits_11 : decode cX9_fits 11 = .ok (.iconst 1, 1) := by decide +kernel
theorem dX9_fits_12 : decode cX9_fits 12 = .ok (.isub, 1) := by decide +kernel
theorem dX9_fits_13 : decode cX9_fits 13 = .ok (.i2l, 1) := by decide +kernel
theorem dX9_fits_14 : decode cX9_fits 14 = .ok (.invokestatic 48, 3) := by decide +kernel
theorem dX9_fits_17 : decode cX9_fits 17 = .ok (.ifCond .ne 5, 3) := by decide +kernel
theorem dX9_fits_20 : decode cX9_fits 20 = .ok (.iconst (-1), 1) := by decide +kernel
theorem dX9_fits_21 : decode cX9_fits 21 = .ok (.ireturn, 1) := by decide +kernel
theorem dX9_fits_22 : decode cX9_fits 22 = .ok (.aload_n 0, 1) := by decide +kernel
theorem dX9_fits_23 : decode cX9_fits 23 = .ok (.invokevirtual 202, 3) := by decide +kernel
theorem dX9_fits_26 : decode cX9_fits 26 = .ok (.iload_n 1, 1) := by decide +kernel
theorem dX9_fits_27 : decode cX9_fits 27 = .ok (.ifCond .ge 10, 3) := by decide +kernel
theorem dX9_fits_30 : decode cX9_fits 30 = .ok (.aload_n 0, 1) := by decide +kernel
theorem dX9_fits_31 : decode cX9_fits 31 = .ok (.getfield 196, 3) := by decide +kernel
theorem dX9_fits_34 : decode cX9_fits 34 = .ok (.goto 9, 3) := by decide +kernel
theorem dX9_fits_37 : decode cX9_fits 37 = .ok (.aload_n 0, 1) := by decide +kernel
theorem dX9_fits_38 : decode cX9_fits 38 = .ok (.getfield 25, 3) := by decide +kernel
theorem dX9_fits_41 : decode cX9_fits 41 = .ok (.iload_n 1, 1) := by decide +kernel
theorem dX9_fits_42 : decode cX9_fits 42 = .ok (.iaload, 1) := by decide +kernel
theorem dX9_fits_43 : decode cX9_fits 43 = .ok (.ireturn, 1) := by decide +kernel
set_option maxRecDepth 20000 in
theorem ggX9_may_X9_isTenant : GoodIn wsX9_may wsX9_isTenant := goodIn_r _ [6, 7, 8, 9, 5, 10, 39, 40, 41, 42, 43, 44, 45, 46, 47, 48, 49, 50, 51, 52, 53, 54, 55, 56, 57, 58, 59, 60] (by decide +kernel) (by decide +kernel)
set_option maxRecDepth 20000 in
theorem gX9_may_X9_isTenant : GoodIn wsX9_may (wsV RX9 137 RX9 yX9_isTenant wsX9_isTenant) := goodIn_app (goodIn_of _ (by decide +kernel)) ggX9_may_X9_isTenant
set_option maxRecDepth 20000 in
theorem ggX9_may_X9_fit : GoodIn wsX9_may wsX9_fit := goodIn_r _ [14, 7, 15, 16, 1, 17, 18, 5, 19, 20, 21, 22, 23, 24, 25, 26, 27, 28, 29, 30, 31, 32, 33, 34, 35, 36, 37, 38, 39, 40, 41, 42, 43, 44, 45, 46, 47, 48, 49, 50, 51, 52, 53, 54, 55, 56, 57, 58, 59, 60] (by decide +kernel) (by decide +kernel)
set_option maxRecDepth 20000 in
theorem gX9_may_X9_fit : GoodIn wsX9_may (wsV RX9 202 RX9 yX9_fit wsX9_fit) := goodIn_app (goodIn_of _ (by decide +kernel)) ggX9_may_X9_fit
theorem dX9_may_0 : decode cX9_may 0 = .ok (.aload_n 0, 1) := by decide +kernel
theorem dX9_may_1 : decode cX9_may 1 = .ok (.iload_n 1, 1) := by decide +kernel
theorem dX9_may_2 : decode cX9_may 2 = .ok (.invokevirtual 137, 3) := by decide +kernel
theorem dX9_may_5 : decode cX9_may 5 = .ok (.ifCond .ne 5, 3) := by decide +kernel
theorem dX9_may_8 : decode cX9_may 8 = .ok (.iconst (-1), 1) := by decide +kernel
theorem dX9_may_9 : decode cX9_may 9 = .ok (.ireturn, 1) := by decide +kernel
theorem dX9_may_10 : decode cX9_may 10 = .ok (.aload_n 0, 1) := by decide +kernel
theorem dX9_may_11 : decode cX9_may 11 = .ok (.invokevirtual 202, 3) := by decide +kernel
theorem dX9_may_14 : decode cX9_may 14 = .ok (.aload_n 0, 1) := by decide +kernel
theorem dX9_may_15 : decode cX9_may 15 = .ok (.getfield 37, 3) := by decide +kernel
theorem dX9_may_18 : decode cX9_may 18 = .ok (.iload_n 1, 1) := by decide +kernel
theorem dX9_may_19 : decode cX9_may 19 = .ok (.iaload, 1) := by decide +kernel
theorem dX9_may_20 : decode cX9_may 20 = .ok (.ireturn, 1) := by decide +kernel
set_option maxRecDepth 20000 in
theorem ggX9_mark_X9_in : GoodIn wsX9_mark wsX9_in := goodIn_r _ [14] (by decide +kernel) (by decide +kernel)
set_option maxRecDepth 20000 in
theorem gX9_mark_X9_in : GoodIn wsX9_mark (va_wsS RX9 48 yX9_in wsX9_in) := goodIn_app (goodIn_of _ (by decide +kernel)) ggX9_mark_X9_in
set_option maxRecDepth 20000 in
theorem ggX9_mark_X9_isTenant : GoodIn wsX9_mark wsX9_isTenant := goodIn_r _ [18, 9, 11, 12, 13, 14, 27, 28, 29, 30, 31, 32, 33, 34, 35, 36, 37, 38, 39, 40, 41, 42, 43, 44, 45, 46, 47, 48] (by decide +kernel) (by decide +kernel)
set_option maxRecDepth 20000 in
theorem gX9_mark_X9_isTenant : GoodIn wsX9_mark (wsV RX9 137 RX9 yX9_isTenant wsX9_isTenant) := goodIn_app (goodIn_of _ (by decide +kernel)) ggX9_mark_X9_isTenant
set_option maxRecDepth 20000 in
theorem ggX9_mark_X9_debt : GoodIn wsX9_mark wsX9_debt := goodIn_r _ [22, 10, 27, 28, 29, 30, 31, 32, 33, 34, 35, 36, 37, 38, 39, 40, 41, 42, 43, 44, 45, 46, 47, 48] (by decide +kernel) (by decide +kernel)
set_option maxRecDepth 20000 in
theorem gX9_mark_X9_debt : GoodIn wsX9_mark (wsV RX9 155 RX9 yX9_debt wsX9_debt) := goodIn_app (goodIn_of _ (by decide +kernel)) ggX9_mark_X9_debt
set_option maxRecDepth 20000 in
theorem ggX9_mark_X9_must : GoodIn wsX9_mark wsX9_must := goodIn_r _ [26, 9, 27, 28, 29, 30, 31, 32, 33, 34, 35, 36, 37, 38, 39, 40, 41, 42, 43, 44, 45, 46, 47, 48] (by decide +kernel) (by decide +kernel)
set_option maxRecDepth 20000 in
theorem gX9_mark_X9_must : GoodIn wsX9_mark (wsV RX9 119 RX9 yX9_must wsX9_must) := goodIn_app (goodIn_of _ (by decide +kernel)) ggX9_mark_X9_must
theorem dX9_mark_0 : decode cX9_mark 0 = .ok (.iload_n 1, 1) := by decide +kernel
theorem dX9_mark_1 : decode cX9_mark 1 = .ok (.i2l, 1) := by decide +kernel
theorem dX9_mark_2 : decode cX9_mark 2 = .ok (.lconst 0, 1) := by decide +kernel
theorem dX9_mark_3 : decode cX9_mark 3 = .ok (.ldc2_w 205, 3) := by decide +kernel
theorem dX9_mark_6 : decode cX9_mark 6 = .ok (.invokestatic 48, 3) := by decide +kernel
theorem dX9_mark_9 : decode cX9_mark 9 = .ok (.ifCond .eq 11, 3) := by decide +kernel
theorem dX9_mark_12 : decode cX9_mark 12 = .ok (.aload_n 0, 1) := by decide +kernel
theorem dX9_mark_13 : decode cX9_mark 13 = .ok (.iload_n 2, 1) := by decide +kernel
theorem dX9_mark_14 : decode cX9_mark 14 = .ok (.invokevirtual 137, 3) := by decide +kernel
theorem dX9_mark_17 : decode cX9_mark 17 = .ok (.ifCond .ne 6, 3) := by decide +kernel
theorem dX9_mark_20 : decode cX9_mark 20 = .ok (.ldc 184, 2) := by decide +kernel
theorem dX9_mark_22 : decode cX9_mark 22 = .ok (.ireturn, 1) := by decide +kernel
theorem dX9_mark_23 : decode cX9_mark 23 = .ok (.aload_n 0, 1) := by decide +kernel
theorem dX9_mark_24 : decode cX9_mark 24 = .ok (.dup, 1) := by decide +kernel
theorem dX9_mark_25 : decode cX9_mark 25 = .ok (.getfield 207, 3) := by decide +kernel
theorem dX9_mark_28 : decode cX9_mark 28 = .ok (.iload_n 1, 1) := by decide +kernel
theorem dX9_mark_29 : decode cX9_mark 29 = .ok (.ifCond .ne 7, 3) := by decide +kernel
theorem dX9_mark_32 : decode cX9_mark 32 = .ok (.lconst 1, 1) := by decide +kernel
theorem dX9_mark_33 : decode cX9_mark 33 = .ok (.goto 50, 3) := by decide +kernel
theorem dX9_mark_36 : decode cX9_mark 36 = .ok (.iload_n 1, 1) := by decide +kernel
theorem dX9_mark_37 : decode cX9_mark 37 = .ok (.iconst 1, 1) := by decide +kernel
theorem dX9_mark_38 : decode cX9_mark 38 = .ok (.if_icmp .ne 9, 3) := by decide +kernel
theorem dX9_mark_41 : decode cX9_mark 41 = .ok (.ldc2_w 211, 3) := by decide +kernel
theorem dX9_mark_44 : decode cX9_mark 44 = .ok (.goto 39, 3) := by decide +kernel
theorem dX9_mark_47 : decode cX9_mark 47 = .ok (.iload_n 1, 1) := by decide +kernel
theorem dX9_mark_48 : decode cX9_mark 48 = .ok (.iconst 2, 1) := by decide +kernel
theorem dX9_mark_49 : decode cX9_mark 49 = .ok (.if_icmp .ne 9, 3) := by decide +kernel
theorem dX9_mark_52 : decode cX9_mark 52 = .ok (.ldc2_w 213, 3) := by decide +kernel
theorem dX9_mark_55 : decode cX9_mark 55 = .ok (.goto 28, 3) := by decide +kernel
theorem dX9_mark_58 : decode cX9_mark 58 = .ok (.iload_n 1, 1) := by decide +kernel
theorem dX9_mark_59 : decode cX9_mark 59 = .ok (.iconst 3, 1) := by decide +kernel
theorem dX9_mark_60 : decode cX9_mark 60 = .ok (.if_icmp .ne 9, 3) := by decide +kernel
theorem dX9_mark_63 : decode cX9_mark 63 = .ok (.ldc2_w 215, 3) := by decide +kernel
theorem dX9_mark_66 : decode cX9_mark 66 = .ok (.goto 17, 3) := by decide +kernel
theorem dX9_mark_69 : decode cX9_mark 69 = .ok (.iload_n 1, 1) := by decide +kernel
theorem dX9_mark_70 : decode cX9_mark 70 = .ok (.iconst 4, 1) := by decide +kernel
theorem dX9_mark_71 : decode cX9_mark 71 = .ok (.if_icmp .ne 9, 3) := by decide +kernel
theorem dX9_mark_74 : decode cX9_mark 74 = .ok (.ldc2_w 217, 3) := by decide +kernel
theorem dX9_mark_77 : decode cX9_mark 77 = .ok (.goto 6, 3) := by decide +kernel
theorem dX9_mark_80 : decode cX9_mark 80 = .ok (.ldc2_w 219, 3) := by decide +kernel
theorem dX9_mark_83 : decode cX9_mark 83 = .ok (.ladd, 1) := by decide +kernel
theorem dX9_mark_84 : decode cX9_mark 84 = .ok (.putfield 207, 3) := by decide +kernel
theorem dX9_mark_87 : decode cX9_mark 87 = .ok (.aload_n 0, 1) := by decide +kernel
theorem dX9_mark_88 : decode cX9_mark 88 = .ok (.getfield 16, 3) := by decide +kernel
theorem dX9_mark_91 : decode cX9_mark 91 = .ok (.bipush 9, 2) := by decide +kernel
theorem dX9_mark_93 : decode cX9_mark 93 = .ok (.iconst 5, 1) := by decide +kernel
theorem dX9_mark_94 : decode cX9_mark 94 = .ok (.iload_n 2, 1) := by decide +kernel
theorem dX9_mark_95 : decode cX9_mark 95 = .ok (.imul, 1) := by decide +kernel
theorem dX9_mark_96 : decode cX9_mark 96 = .ok (.iadd, 1) := by decide +kernel
theorem dX9_mark_97 : decode cX9_mark 97 = .ok (.iconst 2, 1) := by decide +kernel
theorem dX9_mark_98 : decode cX9_mark 98 = .ok (.iadd, 1) := by decide +kernel
theorem dX9_mark_99 : decode cX9_mark 99 = .ok (.iaload, 1) := by decide +kernel
theorem dX9_mark_100 : decode cX9_mark 100 = .ok (.istore_n 3, 1) := by decide +kernel
theorem dX9_mark_101 : decode cX9_mark 101 = .ok (.iload_n 1, 1) := by decide +kernel
theorem dX9_mark_102 : decode cX9_mark 102 = .ok (.tableswitch 96 0 4 #[34, 40, 52, 60, 74], 34) := by decide +kernel
theorem dX9_mark_136 : decode cX9_mark 136 = .ok (.aload_n 0, 1) := by decide +kernel
theorem dX9_mark_137 : decode cX9_mark 137 = .ok (.iload_n 2, 1) := by decide +kernel
theorem dX9_mark_138 : decode cX9_mark 138 = .ok (.invokevirtual 155, 3) := by decide +kernel
theorem dX9_mark_141 : decode cX9_mark 141 = .ok (.ireturn, 1) := by decide +kernel
theorem dX9_mark_142 : decode cX9_mark 142 = .ok (.aload_n 0, 1) := by decide +kernel
theorem dX9_mark_143 : decode cX9_mark 143 = .ok (.iload_n 2, 1) := by decide +kernel
theorem dX9_mark_144 : decode cX9_mark 144 = .ok (.invokevirtual 155, 3) := by decide +kernel
theorem dX9_mark_147 : decode cX9_mark 147 = .ok (.aload_n 0, 1) := by decide +kernel
theorem dX9_mark_148 : decode cX9_mark 148 = .ok (.iload_n 2, 1) := by decide +kernel
theorem dX9_mark_149 : decode cX9_mark 149 = .ok (.invokevirtual 119, 3) := by decide +kernel
theorem dX9_mark_152 : decode cX9_mark 152 = .ok (.iadd, 1) := by decide +kernel
theorem dX9_mark_153 : decode cX9_mark 153 = .ok (.ireturn, 1) := by decide +kernel
theorem dX9_mark_154 : decode cX9_mark 154 = .ok (.aload_n 0, 1) := by decide +kernel
theorem dX9_mark_155 : decode cX9_mark 155 = .ok (.iload_n 2, 1) := by decide +kernel
theorem dX9_mark_156 : decode cX9_mark 156 = .ok (.invokevirtual 155, 3) := by decide +kernel
theorem dX9_mark_159 : decode cX9_mark 159 = .ok (.iload_n 3, 1) := by decide +kernel
theorem dX9_mark_160 : decode cX9_mark 160 = .ok (.isub, 1) := by decide +kernel
theorem dX9_mark_161 : decode cX9_mark 161 = .ok (.ireturn, 1) := by decide +kernel
theorem dX9_mark_162 : decode cX9_mark 162 = .ok (.iconst 2, 1) := by decide +kernel
theorem dX9_mark_163 : decode cX9_mark 163 = .ok (.aload_n 0, 1) := by decide +kernel
theorem dX9_mark_164 : decode cX9_mark 164 = .ok (.iload_n 2, 1) := by decide +kernel
theorem dX9_mark_165 : decode cX9_mark 165 = .ok (.invokevirtual 155, 3) := by decide +kernel
theorem dX9_mark_168 : decode cX9_mark 168 = .ok (.aload_n 0, 1) := by decide +kernel
theorem dX9_mark_169 : decode cX9_mark 169 = .ok (.iload_n 2, 1) := by decide +kernel
theorem dX9_mark_170 : decode cX9_mark 170 = .ok (.invokevirtual 119, 3) := by decide +kernel
theorem dX9_mark_173 : decode cX9_mark 173 = .ok (.iadd, 1) := by decide +kernel
theorem dX9_mark_174 : decode cX9_mark 174 = .ok (.imul, 1) := by decide +kernel
theorem dX9_mark_175 : decode cX9_mark 175 = .ok (.ireturn, 1) := by decide +kernel
theorem dX9_mark_176 : decode cX9_mark 176 = .ok (.aload_n 0, 1) := by decide +kernel
theorem dX9_mark_177 : decode cX9_mark 177 = .ok (.iload_n 2, 1) := by decide +kernel
theorem dX9_mark_178 : decode cX9_mark 178 = .ok (.invokevirtual 155, 3) := by decide +kernel
theorem dX9_mark_181 : decode cX9_mark 181 = .ok (.iload_n 3, 1) := by decide +kernel
theorem dX9_mark_182 : decode cX9_mark 182 = .ok (.isub, 1) := by decide +kernel
theorem dX9_mark_183 : decode cX9_mark 183 = .ok (.aload_n 0, 1) := by decide +kernel
theorem dX9_mark_184 : decode cX9_mark 184 = .ok (.getfield 16, 3) := by decide +kernel
theorem dX9_mark_187 : decode cX9_mark 187 = .ok (.bipush 9, 2) := by decide +kernel
theorem dX9_mark_189 : decode cX9_mark 189 = .ok (.iconst 5, 1) := by decide +kernel
theorem dX9_mark_190 : decode cX9_mark 190 = .ok (.iload_n 2, 1) := by decide +kernel
theorem dX9_mark_191 : decode cX9_mark 191 = .ok (.imul, 1) := by decide +kernel
theorem dX9_mark_192 : decode cX9_mark 192 = .ok (.iadd, 1) := by decide +kernel
theorem dX9_mark_193 : decode cX9_mark 193 = .ok (.iconst 3, 1) := by decide +kernel
theorem dX9_mark_194 : decode cX9_mark 194 = .ok (.iadd, 1) := by decide +kernel
theorem dX9_mark_195 : decode cX9_mark 195 = .ok (.iaload, 1) := by decide +kernel
theorem dX9_mark_196 : decode cX9_mark 196 = .ok (.iadd, 1) := by decide +kernel
theorem dX9_mark_197 : decode cX9_mark 197 = .ok (.ireturn, 1) := by decide +kernel
theorem dX9_mark_198 : decode cX9_mark 198 = .ok (.aload_n 0, 1) := by decide +kernel
theorem dX9_mark_199 : decode cX9_mark 199 = .ok (.iload_n 2, 1) := by decide +kernel
theorem dX9_mark_200 : decode cX9_mark 200 = .ok (.invokevirtual 155, 3) := by decide +kernel
theorem dX9_mark_203 : decode cX9_mark 203 = .ok (.aload_n 0, 1) := by decide +kernel
theorem dX9_mark_204 : decode cX9_mark 204 = .ok (.getfield 19, 3) := by decide +kernel
theorem dX9_mark_207 : decode cX9_mark 207 = .ok (.iconst 0, 1) := by decide +kernel
theorem dX9_mark_208 : decode cX9_mark 208 = .ok (.iaload, 1) := by decide +kernel
theorem dX9_mark_209 : decode cX9_mark 209 = .ok (.iadd, 1) := by decide +kernel
theorem dX9_mark_210 : decode cX9_mark 210 = .ok (.ireturn, 1) := by decide +kernel
theorem dX9_trace_0 : decode cX9_trace 0 = .ok (.aload_n 0, 1) := by decide +kernel
theorem dX9_trace_1 : decode cX9_trace 1 = .ok (.getfield 207, 3) := by decide +kernel
theorem dX9_trace_4 : decode cX9_trace 4 = .ok (.lreturn, 1) := by decide +kernel
set_option maxRecDepth 20000 in
theorem ggX9_keep_X9_in : GoodIn wsX9_keep wsX9_in := goodIn_r _ [8] (by decide +kernel) (by decide +kernel)
set_option maxRecDepth 20000 in
theorem gX9_keep_X9_in : GoodIn wsX9_keep (va_wsS RX9 48 yX9_in wsX9_in) := goodIn_app (goodIn_of _ (by decide +kernel)) ggX9_keep_X9_in
theorem dX9_keep_0 : decode cX9_keep 0 = .ok (.iload_n 1, 1) := by decide +kernel
theorem dX9_keep_1 : decode cX9_keep 1 = .ok (.i2l, 1) := by decide +kernel
theorem dX9_keep_2 : decode cX9_keep 2 = .ok (.lconst 0, 1) := by decide +kernel
theorem dX9_keep_3 : decode cX9_keep 3 = .ok (.lconst 1, 1) := by decide +kernel
theorem dX9_keep_4 : decode cX9_keep 4 = .ok (.invokestatic 48, 3) := by decide +kernel
theorem dX9_keep_7 : decode cX9_keep 7 = .ok (.ifCond .ne 5, 3) := by decide +kernel
theorem dX9_keep_10 : decode cX9_keep 10 = .ok (.iconst (-1), 1) := by decide +kernel
theorem dX9_keep_11 : decode cX9_keep 11 = .ok (.ireturn, 1) := by decide +kernel
theorem dX9_keep_12 : decode cX9_keep 12 = .ok (.sipush 277, 3) := by decide +kernel
theorem dX9_keep_15 : decode cX9_keep 15 = .ok (.iload_n 1, 1) := by decide +kernel
theorem dX9_keep_16 : decode cX9_keep 16 = .ok (.imul, 1) := by decide +kernel
theorem dX9_keep_17 : decode cX9_keep 17 = .ok (.istore_n 2, 1) := by decide +kernel
theorem dX9_keep_18 : decode cX9_keep 18 = .ok (.aload_n 0, 1) := by decide +kernel
theorem dX9_keep_19 : decode cX9_keep 19 = .ok (.getfield 40, 3) := by decide +kernel
theorem dX9_keep_22 : decode cX9_keep 22 = .ok (.iload_n 2, 1) := by decide +kernel
theorem dX9_keep_23 : decode cX9_keep 23 = .ok (.iconst 1, 1) := by decide +kernel
theorem dX9_keep_24 : decode cX9_keep 24 = .ok (.iastore, 1) := by decide +kernel
theorem dX9_keep_25 : decode cX9_keep 25 = .ok (.aload_n 0, 1) := by decide +kernel
theorem dX9_keep_26 : decode cX9_keep 26 = .ok (.getfield 40, 3) := by decide +kernel
theorem dX9_keep_29 : decode cX9_keep 29 = .ok (.iload_n 2, 1) := by decide +kernel
theorem dX9_keep_30 : decode cX9_keep 30 = .ok (.iconst 1, 1) := by decide +kernel
theorem dX9_keep_31 : decode cX9_keep 31 = .ok (.iadd, 1) := by decide +kernel
theorem dX9_keep_32 : decode cX9_keep 32 = .ok (.aload_n 0, 1) := by decide +kernel
theorem dX9_keep_33 : decode cX9_keep 33 = .ok (.getfield 112, 3) := by decide +kernel
theorem dX9_keep_36 : decode cX9_keep 36 = .ok (.iastore, 1) := by decide +kernel
theorem dX9_keep_37 : decode cX9_keep 37 = .ok (.iconst 0, 1) := by decide +kernel
theorem dX9_keep_38 : decode cX9_keep 38 = .ok (.istore_n 3, 1) := by decide +kernel
theorem dX9_keep_39 : decode cX9_keep 39 = .ok (.iload_n 3, 1) := by decide +kernel
theorem dX9_keep_40 : decode cX9_keep 40 = .ok (.bipush 25, 2) := by decide +kernel
theorem dX9_keep_42 : decode cX9_keep 42 = .ok (.if_icmp .ge 25, 3) := by decide +kernel
theorem dX9_keep_45 : decode cX9_keep 45 = .ok (.aload_n 0, 1) := by decide +kernel
theorem dX9_keep_46 : decode cX9_keep 46 = .ok (.getfield 40, 3) := by decide +kernel
theorem dX9_keep_49 : decode cX9_keep 49 = .ok (.iload_n 2, 1) := by decide +kernel
theorem dX9_keep_50 : decode cX9_keep 50 = .ok (.iconst 2, 1) := by decide +kernel
theorem dX9_keep_51 : decode cX9_keep 51 = .ok (.iadd, 1) := by decide +kernel
theorem dX9_keep_52 : decode cX9_keep 52 = .ok (.iload_n 3, 1) := by decide +kernel
theorem dX9_keep_53 : decode cX9_keep 53 = .ok (.iadd, 1) := by decide +kernel
theorem dX9_keep_54 : decode cX9_keep 54 = .ok (.aload_n 0, 1) := by decide +kernel
theorem dX9_keep_55 : decode cX9_keep 55 = .ok (.getfield 19, 3) := by decide +kernel
theorem dX9_keep_58 : decode cX9_keep 58 = .ok (.iload_n 3, 1) := by decide +kernel
theorem dX9_keep_59 : decode cX9_keep 59 = .ok (.iaload, 1) := by decide +kernel
theorem dX9_keep_60 : decode cX9_keep 60 = .ok (.iastore, 1) := by decide +kernel
theorem dX9_keep_61 : decode cX9_keep 61 = .ok (.iinc 3 1, 3) := by decide +kernel
theorem dX9_keep_64 : decode cX9_keep 64 = .ok (.goto (-25), 3) := by decide +kernel
theorem dX9_keep_67 : decode cX9_keep 67 = .ok (.iconst 0, 1) := by decide +kernel
theorem dX9_keep_68 : decode cX9_keep 68 = .ok (.istore_n 3, 1) := by decide +kernel
theorem dX9_keep_69 : decode cX9_keep 69 = .ok (.iload_n 3, 1) := by decide +kernel
theorem dX9_keep_70 : decode cX9_keep 70 = .ok (.sipush 250, 3) := by decide +kernel
theorem dX9_keep_73 : decode cX9_keep 73 = .ok (.if_icmp .ge 26, 3) := by decide +kernel
theorem dX9_keep_76 : decode cX9_keep 76 = .ok (.aload_n 0, 1) := by decide +kernel
theorem dX9_keep_77 : decode cX9_keep 77 = .ok (.getfield 40, 3) := by decide +kernel
theorem dX9_keep_80 : decode cX9_keep 80 = .ok (.iload_n 2, 1) := by decide +kernel
theorem dX9_keep_81 : decode cX9_keep 81 = .ok (.bipush 27, 2) := by decide +kernel
theorem dX9_keep_83 : decode cX9_keep 83 = .ok (.iadd, 1) := by decide +kernel
theorem dX9_keep_84 : decode cX9_keep 84 = .ok (.iload_n 3, 1) := by decide +kernel
theorem dX9_keep_85 : decode cX9_keep 85 = .ok (.iadd, 1) := by decide +kernel
theorem dX9_keep_86 : decode cX9_keep 86 = .ok (.aload_n 0, 1) := by decide +kernel
theorem dX9_keep_87 : decode cX9_keep 87 = .ok (.getfield 22, 3) := by decide +kernel
theorem dX9_keep_90 : decode cX9_keep 90 = .ok (.iload_n 3, 1) := by decide +kernel
theorem dX9_keep_91 : decode cX9_keep 91 = .ok (.iaload, 1) := by decide +kernel
theorem dX9_keep_92 : decode cX9_keep 92 = .ok (.iastore, 1) := by decide +kernel
theorem dX9_keep_93 : decode cX9_keep 93 = .ok (.iinc 3 1, 3) := by decide +kernel
theorem dX9_keep_96 : decode cX9_keep 96 = .ok (.goto (-27), 3) := by decide +kernel
theorem dX9_keep_99 : decode cX9_keep 99 = .ok (.aload_n 0, 1) := by decide +kernel
theorem dX9_keep_100 : decode cX9_keep 100 = .ok (.getfield 19, 3) := by decide +kernel
theorem dX9_keep_103 : decode cX9_keep 103 = .ok (.iconst 0, 1) := by decide +kernel
theorem dX9_keep_104 : decode cX9_keep 104 = .ok (.iaload, 1) := by decide +kernel
theorem dX9_keep_105 : decode cX9_keep 105 = .ok (.ireturn, 1) := by decide +kernel
set_option maxRecDepth 20000 in
theorem ggX9_back_X9_in : GoodIn wsX9_back wsX9_in := goodIn_r _ [8] (by decide +kernel) (by decide +kernel)
set_option maxRecDepth 20000 in
theorem gX9_back_X9_in : GoodIn wsX9_back (va_wsS RX9 48 yX9_in wsX9_in) := goodIn_app (goodIn_of _ (by decide +kernel)) ggX9_back_X9_in
theorem dX9_back_0 : decode cX9_back 0 = .ok (.iload_n 1, 1) := by decide +kernel
theorem dX9_back_1 : decode cX9_back 1 = .ok (.i2l, 1) := by decide +kernel
theorem dX9_back_2 : decode cX9_back 2 = .ok (.lconst 0, 1) := by decide +kernel
theorem dX9_back_3 : decode cX9_back 3 = .ok (.lconst 1, 1) := by decide +kernel
theorem dX9_back_4 : decode cX9_back 4 = .ok (.invokestatic 48, 3) := by decide +kernel
theorem dX9_back_7 : decode cX9_back 7 = .ok (.ifCond .ne 5, 3) := by decide +kernel
theorem dX9_back_10 : decode cX9_back 10 = .ok (.iconst (-1), 1) := by decide +kernel
theorem dX9_back_11 : decode cX9_back 11 = .ok (.ireturn, 1) := by decide +kernel
theorem dX9_back_12 : decode cX9_back 12 = .ok (.sipush 277, 3) := by decide +kernel
theorem dX9_back_15 : decode cX9_back 15 = .ok (.iload_n 1, 1) := by decide +kernel
theorem dX9_back_16 : decode cX9_back 16 = .ok (.imul, 1) := by decide +kernel
theorem dX9_back_17 : decode cX9_back 17 = .ok (.istore_n 2, 1) := by decide +kernel
theorem dX9_back_18 : decode cX9_back 18 = .ok (.aload_n 0, 1) := by decide +kernel
theorem dX9_back_19 : decode cX9_back 19 = .ok (.getfield 40, 3) := by decide +kernel
theorem dX9_back_22 : decode cX9_back 22 = .ok (.iload_n 2, 1) := by decide +kernel
theorem dX9_back_23 : decode cX9_back 23 = .ok (.iaload, 1) := by decide +kernel
theorem dX9_back_24 : decode cX9_back 24 = .ok (.ifCond .ne 6, 3) := by decide +kernel
theorem dX9_back_27 : decode cX9_back 27 = .ok (.bipush (-2), 2) := by decide +kernel
theorem dX9_back_29 : decode cX9_back 29 = .ok (.ireturn, 1) := by decide +kernel
theorem dX9_back_30 : decode cX9_back 30 = .ok (.aload_n 0, 1) := by decide +kernel
theorem dX9_back_31 : decode cX9_back 31 = .ok (.aload_n 0, 1) := by decide +kernel
theorem dX9_back_32 : decode cX9_back 32 = .ok (.getfield 40, 3) := by decide +kernel
theorem dX9_back_35 : decode cX9_back 35 = .ok (.iload_n 2, 1) := by decide +kernel
theorem dX9_back_36 : decode cX9_back 36 = .ok (.iconst 1, 1) := by decide +kernel
theorem dX9_back_37 : decode cX9_back 37 = .ok (.iadd, 1) := by decide +kernel
theorem dX9_back_38 : decode cX9_back 38 = .ok (.iaload, 1) := by decide +kernel
theorem dX9_back_39 : decode cX9_back 39 = .ok (.putfield 112, 3) := by decide +kernel
theorem dX9_back_42 : decode cX9_back 42 = .ok (.iconst 0, 1) := by decide +kernel
theorem dX9_back_43 : decode cX9_back 43 = .ok (.istore_n 3, 1) := by decide +kernel
theorem dX9_back_44 : decode cX9_back 44 = .ok (.iload_n 3, 1) := by decide +kernel
theorem dX9_back_45 : decode cX9_back 45 = .ok (.bipush 25, 2) := by decide +kernel
theorem dX9_back_47 : decode cX9_back 47 = .ok (.if_icmp .ge 25, 3) := by decide +kernel
theorem dX9_back_50 : decode cX9_back 50 = .ok (.aload_n 0, 1) := by decide +kernel
theorem dX9_back_51 : decode cX9_back 51 = .ok (.getfield 19, 3) := by decide +kernel
theorem dX9_back_54 : decode cX9_back 54 = .ok (.iload_n 3, 1) := by decide +kernel
theorem dX9_back_55 : decode cX9_back 55 = .ok (.aload_n 0, 1) := by decide +kernel
theorem dX9_back_56 : decode cX9_back 56 = .ok (.getfield 40, 3) := by decide +kernel
theorem dX9_back_59 : decode cX9_back 59 = .ok (.iload_n 2, 1) := by decide +kernel
theorem dX9_back_60 : decode cX9_back 60 = .ok (.iconst 2, 1) := by decide +kernel
theorem dX9_back_61 : decode cX9_back 61 = .ok (.iadd, 1) := by decide +kernel
theorem dX9_back_62 : decode cX9_back 62 = .ok (.iload_n 3, 1) := by decide +kernel
theorem dX9_back_63 : decode cX9_back 63 = .ok (.iadd, 1) := by decide +kernel
theorem dX9_back_64 : decode cX9_back 64 = .ok (.iaload, 1) := by decide +kernel
theorem dX9_back_65 : decode cX9_back 65 = .ok (.iastore, 1) := by decide +kernel
theorem dX9_back_66 : decode cX9_back 66 = .ok (.iinc 3 1, 3) := by decide +kernel
theorem dX9_back_69 : decode cX9_back 69 = .ok (.goto (-25), 3) := by decide +kernel
theorem dX9_back_72 : decode cX9_back 72 = .ok (.iconst 0, 1) := by decide +kernel
theorem dX9_back_73 : decode cX9_back 73 = .ok (.istore_n 3, 1) := by decide +kernel
theorem dX9_back_74 : decode cX9_back 74 = .ok (.iload_n 3, 1) := by decide +kernel
theorem dX9_back_75 : decode cX9_back 75 = .ok (.sipush 250, 3) := by decide +kernel
theorem dX9_back_78 : decode cX9_back 78 = .ok (.if_icmp .ge 26, 3) := by decide +kernel
theorem dX9_back_81 : decode cX9_back 81 = .ok (.aload_n 0, 1) := by decide +kernel
theorem dX9_back_82 : decode cX9_back 82 = .ok (.getfield 22, 3) := by decide +kernel
theorem dX9_back_85 : decode cX9_back 85 = .ok (.iload_n 3, 1) := by decide +kernel
theorem dX9_back_86 : decode cX9_back 86 = .ok (.aload_n 0, 1) := by decide +kernel
theorem dX9_back_87 : decode cX9_back 87 = .ok (.getfield 40, 3) := by decide +kernel
theorem dX9_back_90 : decode cX9_back 90 = .ok (.iload_n 2, 1) := by decide +kernel
theorem dX9_back_91 : decode cX9_back 91 = .ok (.bipush 27, 2) := by decide +kernel
theorem dX9_back_93 : decode cX9_back 93 = .ok (.iadd, 1) := by decide +kernel
theorem dX9_back_94 : decode cX9_back 94 = .ok (.iload_n 3, 1) := by decide +kernel
theorem dX9_back_95 : decode cX9_back 95 = .ok (.iadd, 1) := by decide +kernel
theorem dX9_back_96 : decode cX9_back 96 = .ok (.iaload, 1) := by decide +kernel
theorem dX9_back_97 : decode cX9_back 97 = .ok (.iastore, 1) := by decide +kernel
theorem dX9_back_98 : decode cX9_back 98 = .ok (.iinc 3 1, 3) := by decide +kernel
theorem dX9_back_101 : decode cX9_back 101 = .ok (.goto (-27), 3) := by decide +kernel
theorem dX9_back_104 : decode cX9_back 104 = .ok (.aload_n 0, 1) := by decide +kernel
theorem dX9_back_105 : decode cX9_back 105 = .ok (.getfield 19, 3) := by decide +kernel
theorem dX9_back_108 : decode cX9_back 108 = .ok (.iconst 0, 1) := by decide +kernel
theorem dX9_back_109 : decode cX9_back 109 = .ok (.iaload, 1) := by decide +kernel
theorem dX9_back_110 : decode cX9_back 110 = .ok (.ireturn, 1) := by decide +kernel
theorem dX9_count_0 : decode cX9_count 0 = .ok (.iload_n 1, 1) := by decide +kernel
theorem dX9_count_1 : decode cX9_count 1 = .ok (.tableswitch 61 0 5 #[39, 39, 39, 46, 51, 56], 39) := by decide +kernel
theorem dX9_count_40 : decode cX9_count 40 = .ok (.aload_n 0, 1) := by decide +kernel
theorem dX9_count_41 : decode cX9_count 41 = .ok (.getfield 16, 3) := by decide +kernel
theorem dX9_count_44 : decode cX9_count 44 = .ok (.iload_n 1, 1) := by decide +kernel
theorem dX9_count_45 : decode cX9_count 45 = .ok (.iaload, 1) := by decide +kernel
theorem dX9_count_46 : decode cX9_count 46 = .ok (.ireturn, 1) := by decide +kernel
theorem dX9_count_47 : decode cX9_count 47 = .ok (.aload_n 0, 1) := by decide +kernel
theorem dX9_count_48 : decode cX9_count 48 = .ok (.getfield 109, 3) := by decide +kernel
theorem dX9_count_51 : decode cX9_count 51 = .ok (.ireturn, 1) := by decide +kernel
theorem dX9_count_52 : decode cX9_count 52 = .ok (.aload_n 0, 1) := by decide +kernel
theorem dX9_count_53 : decode cX9_count 53 = .ok (.getfield 112, 3) := by decide +kernel
theorem dX9_count_56 : decode cX9_count 56 = .ok (.ireturn, 1) := by decide +kernel
theorem dX9_count_57 : decode cX9_count 57 = .ok (.aload_n 0, 1) := by decide +kernel
theorem dX9_count_58 : decode cX9_count 58 = .ok (.getfield 52, 3) := by decide +kernel
theorem dX9_count_61 : decode cX9_count 61 = .ok (.ireturn, 1) := by decide +kernel
theorem dX9_count_62 : decode cX9_count 62 = .ok (.iconst (-1), 1) := by decide +kernel
theorem dX9_count_63 : decode cX9_count 63 = .ok (.ireturn, 1) := by decide +kernel
theorem dJ6_bitCount_0f7a4_0 : decode cJ6_bitCount_0f7a4 0 = .ok (.iload_n 0, 1) := by decide +kernel
theorem dJ6_bitCount_0f7a4_1 : decode cJ6_bitCount_0f7a4 1 = .ok (.iload_n 0, 1) := by decide +kernel
theorem dJ6_bitCount_0f7a4_2 : decode cJ6_bitCount_0f7a4 2 = .ok (.iconst 1, 1) := by decide +kernel
theorem dJ6_bitCount_0f7a4_3 : decode cJ6_bitCount_0f7a4 3 = .ok (.iushr, 1) := by decide +kernel
theorem dJ6_bitCount_0f7a4_4 : decode cJ6_bitCount_0f7a4 4 = .ok (.ldc_w 265, 3) := by decide +kernel
theorem dJ6_bitCount_0f7a4_7 : decode cJ6_bitCount_0f7a4 7 = .ok (.iand, 1) := by decide +kernel
theorem dJ6_bitCount_0f7a4_8 : decode cJ6_bitCount_0f7a4 8 = .ok (.isub, 1) := by decide +kernel
theorem dJ6_bitCount_0f7a4_9 : decode cJ6_bitCount_0f7a4 9 = .ok (.istore_n 0, 1) := by decide +kernel
theorem dJ6_bitCount_0f7a4_10 : decode cJ6_bitCount_0f7a4 10 = .ok (.iload_n 0, 1) := by decide +kernel
theorem dJ6_bitCount_0f7a4_11 : decode cJ6_bitCount_0f7a4 11 = .ok (.ldc_w 266, 3) := by decide +kernel
theorem dJ6_bitCount_0f7a4_14 : decode cJ6_bitCount_0f7a4 14 = .ok (.iand, 1) := by decide +kernel
theorem dJ6_bitCount_0f7a4_15 : decode cJ6_bitCount_0f7a4 15 = .ok (.iload_n 0, 1) := by decide +kernel
theorem dJ6_bitCount_0f7a4_16 : decode cJ6_bitCount_0f7a4 16 = .ok (.iconst 2, 1) := by decide +kernel
theorem dJ6_bitCount_0f7a4_17 : decode cJ6_bitCount_0f7a4 17 = .ok (.iushr, 1) := by decide +kernel
theorem dJ6_bitCount_0f7a4_18 : decode cJ6_bitCount_0f7a4 18 = .ok (.ldc_w 266, 3) := by decide +kernel
theorem dJ6_bitCount_0f7a4_21 : decode cJ6_bitCount_0f7a4 21 = .ok (.iand, 1) := by decide +kernel
theorem dJ6_bitCount_0f7a4_22 : decode cJ6_bitCount_0f7a4 22 = .ok (.iadd, 1) := by decide +kernel
theorem dJ6_bitCount_0f7a4_23 : decode cJ6_bitCount_0f7a4 23 = .ok (.istore_n 0, 1) := by decide +kernel
theorem dJ6_bitCount_0f7a4_24 : decode cJ6_bitCount_0f7a4 24 = .ok (.iload_n 0, 1) := by decide +kernel
theorem dJ6_bitCount_0f7a4_25 : decode cJ6_bitCount_0f7a4 25 = .ok (.iload_n 0, 1) := by decide +kernel
theorem dJ6_bitCount_0f7a4_26 : decode cJ6_bitCount_0f7a4 26 = .ok (.iconst 4, 1) := by decide +kernel
theorem dJ6_bitCount_0f7a4_27 : decode cJ6_bitCount_0f7a4 27 = .ok (.iushr, 1) := by decide +kernel
theorem dJ6_bitCount_0f7a4_28 : decode cJ6_bitCount_0f7a4 28 = .ok (.iadd, 1) := by decide +kernel
theorem dJ6_bitCount_0f7a4_29 : decode cJ6_bitCount_0f7a4 29 = .ok (.ldc_w 267, 3) := by decide +kernel
theorem dJ6_bitCount_0f7a4_32 : decode cJ6_bitCount_0f7a4 32 = .ok (.iand, 1) := by decide +kernel
theorem dJ6_bitCount_0f7a4_33 : decode cJ6_bitCount_0f7a4 33 = .ok (.istore_n 0, 1) := by decide +kernel
theorem dJ6_bitCount_0f7a4_34 : decode cJ6_bitCount_0f7a4 34 = .ok (.iload_n 0, 1) := by decide +kernel
theorem dJ6_bitCount_0f7a4_35 : decode cJ6_bitCount_0f7a4 35 = .ok (.iload_n 0, 1) := by decide +kernel
theorem dJ6_bitCount_0f7a4_36 : decode cJ6_bitCount_0f7a4 36 = .ok (.bipush 8, 2) := by decide +kernel
theorem dJ6_bitCount_0f7a4_38 : decode cJ6_bitCount_0f7a4 38 = .ok (.iushr, 1) := by decide +kernel
theorem dJ6_bitCount_0f7a4_39 : decode cJ6_bitCount_0f7a4 39 = .ok (.iadd, 1) := by decide +kernel
theorem dJ6_bitCount_0f7a4_40 : decode cJ6_bitCount_0f7a4 40 = .ok (.istore_n 0, 1) := by decide +kernel
theorem dJ6_bitCount_0f7a4_41 : decode cJ6_bitCount_0f7a4 41 = .ok (.iload_n 0, 1) := by decide +kernel
theorem dJ6_bitCount_0f7a4_42 : decode cJ6_bitCount_0f7a4 42 = .ok (.iload_n 0, 1) := by decide +kernel
theorem dJ6_bitCount_0f7a4_43 : decode cJ6_bitCount_0f7a4 43 = .ok (.bipush 16, 2) := by decide +kernel

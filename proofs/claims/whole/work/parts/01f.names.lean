theorem dX7_envies_14 : decode cX7_envies 14 = .ok (.iconst 0, 1) := by decide +kernel
theorem dX7_envies_15 : decode cX7_envies 15 = .ok (.istore 4, 2) := by decide +kernel
theorem dX7_envies_17 : decode cX7_envies 17 = .ok (.iload 4, 2) := by decide +kernel
theorem dX7_envies_19 : decode cX7_envies 19 = .ok (.aload_n 0, 1) := by decide +kernel
theorem dX7_envies_20 : decode cX7_envies 20 = .ok (.getfield 7, 3) := by decide +kernel
theorem dX7_envies_23 : decode cX7_envies 23 = .ok (.iconst 0, 1) := by decide +kernel
theorem dX7_envies_24 : decode cX7_envies 24 = .ok (.iaload, 1) := by decide +kernel
theorem dX7_envies_25 : decode cX7_envies 25 = .ok (.if_icmp .ge 50, 3) := by decide +kernel
theorem dX7_envies_28 : decode cX7_envies 28 = .ok (.iload_n 3, 1) := by decide +kernel
theorem dX7_envies_29 : decode cX7_envies 29 = .ok (.iload 4, 2) := by decide +kernel
theorem dX7_envies_31 : decode cX7_envies 31 = .ok (.if_icmp .ne 7, 3) := by decide +kernel
theorem dX7_envies_34 : decode cX7_envies 34 = .ok (.iconst 0, 1) := by decide +kernel
theorem dX7_envies_35 : decode cX7_envies 35 = .ok (.goto 10, 3) := by decide +kernel
theorem dX7_envies_38 : decode cX7_envies 38 = .ok (.aload_n 0, 1) := by decide +kernel
theorem dX7_envies_39 : decode cX7_envies 39 = .ok (.iload_n 3, 1) := by decide +kernel
theorem dX7_envies_40 : decode cX7_envies 40 = .ok (.iload 4, 2) := by decide +kernel
theorem dX7_envies_42 : decode cX7_envies 42 = .ok (.invokevirtual 102, 3) := by decide +kernel
theorem dX7_envies_45 : decode cX7_envies 45 = .ok (.istore 5, 2) := by decide +kernel
theorem dX7_envies_47 : decode cX7_envies 47 = .ok (.iload_n 2, 1) := by decide +kernel
theorem dX7_envies_48 : decode cX7_envies 48 = .ok (.iload_n 1, 1) := by decide +kernel
theorem dX7_envies_49 : decode cX7_envies 49 = .ok (.ifCond .eq 8, 3) := by decide +kernel
theorem dX7_envies_52 : decode cX7_envies 52 = .ok (.iload 5, 2) := by decide +kernel
theorem dX7_envies_54 : decode cX7_envies 54 = .ok (.goto 13, 3) := by decide +kernel
theorem dX7_envies_57 : decode cX7_envies 57 = .ok (.iload 5, 2) := by decide +kernel
theorem dX7_envies_59 : decode cX7_envies 59 = .ok (.ifCond .le 7, 3) := by decide +kernel
theorem dX7_envies_62 : decode cX7_envies 62 = .ok (.iconst 1, 1) := by decide +kernel
theorem dX7_envies_63 : decode cX7_envies 63 = .ok (.goto 4, 3) := by decide +kernel
theorem dX7_envies_66 : decode cX7_envies 66 = .ok (.iconst 0, 1) := by decide +kernel
theorem dX7_envies_67 : decode cX7_envies 67 = .ok (.iadd, 1) := by decide +kernel
theorem dX7_envies_68 : decode cX7_envies 68 = .ok (.istore_n 2, 1) := by decide +kernel
theorem dX7_envies_69 : decode cX7_envies 69 = .ok (.iinc 4 1, 3) := by decide +kernel
theorem dX7_envies_72 : decode cX7_envies 72 = .ok (.goto (-55), 3) := by decide +kernel
theorem dX7_envies_75 : decode cX7_envies 75 = .ok (.iinc 3 1, 3) := by decide +kernel
theorem dX7_envies_78 : decode cX7_envies 78 = .ok (.goto (-74), 3) := by decide +kernel
theorem dX7_envies_81 : decode cX7_envies 81 = .ok (.iload_n 2, 1) := by decide +kernel
theorem dX7_envies_82 : decode cX7_envies 82 = .ok (.ireturn, 1) := by decide +kernel
set_option maxRecDepth 20000 in
theorem ggX7_served_X7_total : GoodIn wsX7_served wsX7_total := goodIn_r _ [6, 7, 8, 9, 5, 10, 11, 12, 13, 14, 1, 19, 20, 21, 22, 23, 24, 25, 26, 27, 28, 29, 30, 31, 32, 33, 34] (by decide +kernel) (by decide +kernel)
set_option maxRecDepth 20000 in
theorem gX7_served_X7_total : GoodIn wsX7_served (wsV RX7 65 RX7 yX7_total wsX7_total) := goodIn_app (goodIn_of _ (by decide +kernel)) ggX7_served_X7_total
set_option maxRecDepth 20000 in
theorem ggX7_served_X7_pieceValue : GoodIn wsX7_served wsX7_pieceValue := goodIn_r _ [18, 1, 11, 12, 13, 5, 14, 19, 20, 21, 22, 23, 24, 25, 26, 27, 28, 29, 30, 31, 32, 33, 34] (by decide +kernel) (by decide +kernel)
set_option maxRecDepth 20000 in
theorem gX7_served_X7_pieceValue : GoodIn wsX7_served (wsV RX7 55 RX7 yX7_pieceValue wsX7_pieceValue) := goodIn_app (goodIn_of _ (by decide +kernel)) ggX7_served_X7_pieceValue
theorem dX7_served_0 : decode cX7_served 0 = .ok (.iconst 0, 1) := by decide +kernel
theorem dX7_served_1 : decode cX7_served 1 = .ok (.istore_n 1, 1) := by decide +kernel
theorem dX7_served_2 : decode cX7_served 2 = .ok (.iconst 0, 1) := by decide +kernel
theorem dX7_served_3 : decode cX7_served 3 = .ok (.istore_n 2, 1) := by decide +kernel
theorem dX7_served_4 : decode cX7_served 4 = .ok (.iload_n 2, 1) := by decide +kernel
theorem dX7_served_5 : decode cX7_served 5 = .ok (.aload_n 0, 1) := by decide +kernel
theorem dX7_served_6 : decode cX7_served 6 = .ok (.getfield 7, 3) := by decide +kernel
theorem dX7_served_9 : decode cX7_served 9 = .ok (.iconst 0, 1) := by decide +kernel
theorem dX7_served_10 : decode cX7_served 10 = .ok (.iaload, 1) := by decide +kernel
theorem dX7_served_11 : decode cX7_served 11 = .ok (.if_icmp .ge 46, 3) := by decide +kernel
theorem dX7_served_14 : decode cX7_served 14 = .ok (.iload_n 1, 1) := by decide +kernel
theorem dX7_served_15 : decode cX7_served 15 = .ok (.aload_n 0, 1) := by decide +kernel
theorem dX7_served_16 : decode cX7_served 16 = .ok (.iload_n 2, 1) := by decide +kernel
theorem dX7_served_17 : decode cX7_served 17 = .ok (.invokevirtual 65, 3) := by decide +kernel
theorem dX7_served_20 : decode cX7_served 20 = .ok (.ifCond .le 28, 3) := by decide +kernel
theorem dX7_served_23 : decode cX7_served 23 = .ok (.aload_n 0, 1) := by decide +kernel
theorem dX7_served_24 : decode cX7_served 24 = .ok (.getfield 7, 3) := by decide +kernel
theorem dX7_served_27 : decode cX7_served 27 = .ok (.iconst 0, 1) := by decide +kernel
theorem dX7_served_28 : decode cX7_served 28 = .ok (.iaload, 1) := by decide +kernel
theorem dX7_served_29 : decode cX7_served 29 = .ok (.aload_n 0, 1) := by decide +kernel
theorem dX7_served_30 : decode cX7_served 30 = .ok (.iload_n 2, 1) := by decide +kernel
theorem dX7_served_31 : decode cX7_served 31 = .ok (.iload_n 2, 1) := by decide +kernel
theorem dX7_served_32 : decode cX7_served 32 = .ok (.invokevirtual 55, 3) := by decide +kernel
theorem dX7_served_35 : decode cX7_served 35 = .ok (.imul, 1) := by decide +kernel
theorem dX7_served_36 : decode cX7_served 36 = .ok (.aload_n 0, 1) := by decide +kernel
theorem dX7_served_37 : decode cX7_served 37 = .ok (.iload_n 2, 1) := by decide +kernel
theorem dX7_served_38 : decode cX7_served 38 = .ok (.invokevirtual 65, 3) := by decide +kernel
theorem dX7_served_41 : decode cX7_served 41 = .ok (.if_icmp .lt 7, 3) := by decide +kernel
theorem dX7_served_44 : decode cX7_served 44 = .ok (.iconst 1, 1) := by decide +kernel
theorem dX7_served_45 : decode cX7_served 45 = .ok (.goto 4, 3) := by decide +kernel
theorem dX7_served_48 : decode cX7_served 48 = .ok (.iconst 0, 1) := by decide +kernel
theorem dX7_served_49 : decode cX7_served 49 = .ok (.iadd, 1) := by decide +kernel
theorem dX7_served_50 : decode cX7_served 50 = .ok (.istore_n 1, 1) := by decide +kernel
theorem dX7_served_51 : decode cX7_served 51 = .ok (.iinc 2 1, 3) := by decide +kernel
theorem dX7_served_54 : decode cX7_served 54 = .ok (.goto (-50), 3) := by decide +kernel
theorem dX7_served_57 : decode cX7_served 57 = .ok (.iload_n 1, 1) := by decide +kernel
theorem dX7_served_58 : decode cX7_served 58 = .ok (.ireturn, 1) := by decide +kernel
set_option maxRecDepth 20000 in
theorem ggX7_count_X7_onTable : GoodIn wsX7_count wsX7_onTable := goodIn_r _ [8, 1, 37, 38, 39, 40, 41, 42, 43, 44, 45, 46, 47, 48, 49, 50, 51, 52] (by decide +kernel) (by decide +kernel)
set_option maxRecDepth 20000 in
theorem gX7_count_X7_onTable : GoodIn wsX7_count (wsV RX7 111 RX7 yX7_onTable wsX7_onTable) := goodIn_app (goodIn_of _ (by decide +kernel)) ggX7_count_X7_onTable
set_option maxRecDepth 20000 in
theorem ggX7_count_X7_envies : GoodIn wsX7_count wsX7_envies := goodIn_r _ [12, 1, 13, 14, 15, 7, 16, 17, 18, 19, 20, 21, 22, 23, 24, 37, 38, 39, 40, 41, 42, 43, 44, 45, 46, 47, 48, 49, 50, 51, 52] (by decide +kernel) (by decide +kernel)
set_option maxRecDepth 20000 in
theorem gX7_count_X7_envies : GoodIn wsX7_count (wsV RX7 114 RX7 yX7_envies wsX7_envies) := goodIn_app (goodIn_of _ (by decide +kernel)) ggX7_count_X7_envies
set_option maxRecDepth 20000 in
theorem ggX7_count_X7_served : GoodIn wsX7_count wsX7_served := goodIn_r _ [28, 1, 29, 30, 31, 7, 32, 33, 34, 35, 36, 21, 22, 23, 24, 17, 18, 19, 20, 37, 38, 39, 40, 41, 42, 43, 44, 45, 46, 47, 48, 49, 50, 51, 52] (by decide +kernel) (by decide +kernel)
set_option maxRecDepth 20000 in
theorem gX7_count_X7_served : GoodIn wsX7_count (wsV RX7 118 RX7 yX7_served wsX7_served) := goodIn_app (goodIn_of _ (by decide +kernel)) ggX7_count_X7_served
theorem dX7_count_0 : decode cX7_count 0 = .ok (.iload_n 1, 1) := by decide +kernel
theorem dX7_count_1 : decode cX7_count 1 = .ok (.tableswitch 100 0 7 #[47, 54, 59, 65, 71, 85, 90, 95], 47) := by decide +kernel
theorem dX7_count_48 : decode cX7_count 48 = .ok (.aload_n 0, 1) := by decide +kernel
theorem dX7_count_49 : decode cX7_count 49 = .ok (.getfield 7, 3) := by decide +kernel
theorem dX7_count_52 : decode cX7_count 52 = .ok (.iconst 0, 1) := by decide +kernel
theorem dX7_count_53 : decode cX7_count 53 = .ok (.iaload, 1) := by decide +kernel
theorem dX7_count_54 : decode cX7_count 54 = .ok (.ireturn, 1) := by decide +kernel
theorem dX7_count_55 : decode cX7_count 55 = .ok (.aload_n 0, 1) := by decide +kernel
theorem dX7_count_56 : decode cX7_count 56 = .ok (.invokevirtual 111, 3) := by decide +kernel
theorem dX7_count_59 : decode cX7_count 59 = .ok (.ireturn, 1) := by decide +kernel
theorem dX7_count_60 : decode cX7_count 60 = .ok (.aload_n 0, 1) := by decide +kernel
theorem dX7_count_61 : decode cX7_count 61 = .ok (.iconst 0, 1) := by decide +kernel
theorem dX7_count_62 : decode cX7_count 62 = .ok (.invokevirtual 114, 3) := by decide +kernel
theorem dX7_count_65 : decode cX7_count 65 = .ok (.ireturn, 1) := by decide +kernel
theorem dX7_count_66 : decode cX7_count 66 = .ok (.aload_n 0, 1) := by decide +kernel
theorem dX7_count_67 : decode cX7_count 67 = .ok (.iconst 1, 1) := by decide +kernel
theorem dX7_count_68 : decode cX7_count 68 = .ok (.invokevirtual 114, 3) := by decide +kernel
theorem dX7_count_71 : decode cX7_count 71 = .ok (.ireturn, 1) := by decide +kernel
theorem dX7_count_72 : decode cX7_count 72 = .ok (.aload_n 0, 1) := by decide +kernel
theorem dX7_count_73 : decode cX7_count 73 = .ok (.iconst 0, 1) := by decide +kernel
theorem dX7_count_74 : decode cX7_count 74 = .ok (.invokevirtual 114, 3) := by decide +kernel
theorem dX7_count_77 : decode cX7_count 77 = .ok (.ifCond .ne 7, 3) := by decide +kernel
theorem dX7_count_80 : decode cX7_count 80 = .ok (.iconst 1, 1) := by decide +kernel
theorem dX7_count_81 : decode cX7_count 81 = .ok (.goto 4, 3) := by decide +kernel
theorem dX7_count_84 : decode cX7_count 84 = .ok (.iconst 0, 1) := by decide +kernel
theorem dX7_count_85 : decode cX7_count 85 = .ok (.ireturn, 1) := by decide +kernel
theorem dX7_count_86 : decode cX7_count 86 = .ok (.aload_n 0, 1) := by decide +kernel
theorem dX7_count_87 : decode cX7_count 87 = .ok (.invokevirtual 118, 3) := by decide +kernel
theorem dX7_count_90 : decode cX7_count 90 = .ok (.ireturn, 1) := by decide +kernel
theorem dX7_count_91 : decode cX7_count 91 = .ok (.aload_n 0, 1) := by decide +kernel
theorem dX7_count_92 : decode cX7_count 92 = .ok (.getfield 31, 3) := by decide +kernel
theorem dX7_count_95 : decode cX7_count 95 = .ok (.ireturn, 1) := by decide +kernel
theorem dX7_count_96 : decode cX7_count 96 = .ok (.aload_n 0, 1) := by decide +kernel
theorem dX7_count_97 : decode cX7_count 97 = .ok (.getfield 69, 3) := by decide +kernel
theorem dX7_count_100 : decode cX7_count 100 = .ok (.ireturn, 1) := by decide +kernel
theorem dX7_count_101 : decode cX7_count 101 = .ok (.iconst (-1), 1) := by decide +kernel
theorem dX7_count_102 : decode cX7_count 102 = .ok (.ireturn, 1) := by decide +kernel
theorem dX7_divisor_0 : decode cX7_divisor 0 = .ok (.iload_n 0, 1) := by decide +kernel
theorem dX7_divisor_1 : decode cX7_divisor 1 = .ok (.istore_n 2, 1) := by decide +kernel
theorem dX7_divisor_2 : decode cX7_divisor 2 = .ok (.iload_n 1, 1) := by decide +kernel
theorem dX7_divisor_3 : decode cX7_divisor 3 = .ok (.istore_n 3, 1) := by decide +kernel
theorem dX7_divisor_4 : decode cX7_divisor 4 = .ok (.iload_n 3, 1) := by decide +kernel
theorem dX7_divisor_5 : decode cX7_divisor 5 = .ok (.ifCond .le 16, 3) := by decide +kernel
theorem dX7_divisor_8 : decode cX7_divisor 8 = .ok (.iload_n 2, 1) := by decide +kernel
theorem dX7_divisor_9 : decode cX7_divisor 9 = .ok (.iload_n 3, 1) := by decide +kernel
theorem dX7_divisor_10 : decode cX7_divisor 10 = .ok (.irem, 1) := by decide +kernel
theorem dX7_divisor_11 : decode cX7_divisor 11 = .ok (.istore 4, 2) := by decide +kernel
theorem dX7_divisor_13 : decode cX7_divisor 13 = .ok (.iload_n 3, 1) := by decide +kernel
theorem dX7_divisor_14 : decode cX7_divisor 14 = .ok (.istore_n 2, 1) := by decide +kernel
theorem dX7_divisor_15 : decode cX7_divisor 15 = .ok (.iload 4, 2) := by decide +kernel
theorem dX7_divisor_17 : decode cX7_divisor 17 = .ok (.istore_n 3, 1) := by decide +kernel
theorem dX7_divisor_18 : decode cX7_divisor 18 = .ok (.goto (-14), 3) := by decide +kernel
theorem dX7_divisor_21 : decode cX7_divisor 21 = .ok (.iload_n 2, 1) := by decide +kernel
theorem dX7_divisor_22 : decode cX7_divisor 22 = .ok (.ireturn, 1) := by decide +kernel
set_option maxRecDepth 20000 in
theorem ggX7_part_X7_divisor : GoodIn wsX7_part wsX7_divisor := goodIn_r _ [4] (by decide +kernel) (by decide +kernel)
set_option maxRecDepth 20000 in
theorem gX7_part_X7_divisor : GoodIn wsX7_part (va_wsS RX7 121 yX7_divisor wsX7_divisor) := goodIn_app (goodIn_of _ (by decide +kernel)) ggX7_part_X7_divisor
theorem dX7_part_0 : decode cX7_part 0 = .ok (.iload_n 0, 1) := by decide +kernel
theorem dX7_part_1 : decode cX7_part 1 = .ok (.ifCond .ne 13, 3) := by decide +kernel
theorem dX7_part_4 : decode cX7_part 4 = .ok (.iload_n 2, 1) := by decide +kernel
theorem dX7_part_5 : decode cX7_part 5 = .ok (.ifCond .eq 7, 3) := by decide +kernel
theorem dX7_part_8 : decode cX7_part 8 = .ok (.iconst 0, 1) := by decide +kernel
theorem dX7_part_9 : decode cX7_part 9 = .ok (.goto 4, 3) := by decide +kernel
theorem dX7_part_12 : decode cX7_part 12 = .ok (.iconst 1, 1) := by decide +kernel
theorem dX7_part_13 : decode cX7_part 13 = .ok (.ireturn, 1) := by decide +kernel
theorem dX7_part_14 : decode cX7_part 14 = .ok (.iload_n 0, 1) := by decide +kernel
theorem dX7_part_15 : decode cX7_part 15 = .ok (.iload_n 1, 1) := by decide +kernel
theorem dX7_part_16 : decode cX7_part 16 = .ok (.invokestatic 121, 3) := by decide +kernel
theorem dX7_part_19 : decode cX7_part 19 = .ok (.istore_n 3, 1) := by decide +kernel
theorem dX7_part_20 : decode cX7_part 20 = .ok (.iload_n 2, 1) := by decide +kernel
theorem dX7_part_21 : decode cX7_part 21 = .ok (.ifCond .eq 9, 3) := by decide +kernel
theorem dX7_part_24 : decode cX7_part 24 = .ok (.iload_n 0, 1) := by decide +kernel
theorem dX7_part_25 : decode cX7_part 25 = .ok (.iload_n 3, 1) := by decide +kernel
theorem dX7_part_26 : decode cX7_part 26 = .ok (.idiv, 1) := by decide +kernel
theorem dX7_part_27 : decode cX7_part 27 = .ok (.goto 6, 3) := by decide +kernel
theorem dX7_part_30 : decode cX7_part 30 = .ok (.iload_n 1, 1) := by decide +kernel
theorem dX7_part_31 : decode cX7_part 31 = .ok (.iload_n 3, 1) := by decide +kernel
theorem dX7_part_32 : decode cX7_part 32 = .ok (.idiv, 1) := by decide +kernel
theorem dX7_part_33 : decode cX7_part 33 = .ok (.ireturn, 1) := by decide +kernel
theorem dX7_crumbsOf_0 : decode cX7_crumbsOf 0 = .ok (.iconst 0, 1) := by decide +kernel
theorem dX7_crumbsOf_1 : decode cX7_crumbsOf 1 = .ok (.istore_n 3, 1) := by decide +kernel
theorem dX7_crumbsOf_2 : decode cX7_crumbsOf 2 = .ok (.iconst 0, 1) := by decide +kernel
theorem dX7_crumbsOf_3 : decode cX7_crumbsOf 3 = .ok (.istore 4, 2) := by decide +kernel
theorem dX7_crumbsOf_5 : decode cX7_crumbsOf 5 = .ok (.iload 4, 2) := by decide +kernel
theorem dX7_crumbsOf_7 : decode cX7_crumbsOf 7 = .ok (.bipush 24, 2) := by decide +kernel
theorem dX7_crumbsOf_9 : decode cX7_crumbsOf 9 = .ok (.if_icmp .ge 66, 3) := by decide +kernel
theorem dX7_crumbsOf_12 : decode cX7_crumbsOf 12 = .ok (.iload 4, 2) := by decide +kernel
theorem dX7_crumbsOf_14 : decode cX7_crumbsOf 14 = .ok (.ifCond .eq 18, 3) := by decide +kernel
theorem dX7_crumbsOf_17 : decode cX7_crumbsOf 17 = .ok (.aload_n 0, 1) := by decide +kernel
theorem dX7_crumbsOf_18 : decode cX7_crumbsOf 18 = .ok (.getfield 7, 3) := by decide +kernel
theorem dX7_crumbsOf_21 : decode cX7_crumbsOf 21 = .ok (.iconst 1, 1) := by decide +kernel
theorem dX7_crumbsOf_22 : decode cX7_crumbsOf 22 = .ok (.iload 4, 2) := by decide +kernel
theorem dX7_crumbsOf_24 : decode cX7_crumbsOf 24 = .ok (.iadd, 1) := by decide +kernel
theorem dX7_crumbsOf_25 : decode cX7_crumbsOf 25 = .ok (.iconst 1, 1) := by decide +kernel
theorem dX7_crumbsOf_26 : decode cX7_crumbsOf 26 = .ok (.isub, 1) := by decide +kernel
theorem dX7_crumbsOf_27 : decode cX7_crumbsOf 27 = .ok (.iaload, 1) := by decide +kernel
theorem dX7_crumbsOf_28 : decode cX7_crumbsOf 28 = .ok (.iload_n 1, 1) := by decide +kernel
theorem dX7_crumbsOf_29 : decode cX7_crumbsOf 29 = .ok (.if_icmp .eq 7, 3) := by decide +kernel
theorem dX7_crumbsOf_32 : decode cX7_crumbsOf 32 = .ok (.iconst 1, 1) := by decide +kernel
theorem dX7_crumbsOf_33 : decode cX7_crumbsOf 33 = .ok (.goto 4, 3) := by decide +kernel
theorem dX7_crumbsOf_36 : decode cX7_crumbsOf 36 = .ok (.iconst 0, 1) := by decide +kernel
theorem dX7_crumbsOf_37 : decode cX7_crumbsOf 37 = .ok (.istore 5, 2) := by decide +kernel
theorem dX7_crumbsOf_39 : decode cX7_crumbsOf 39 = .ok (.iload_n 3, 1) := by decide +kernel
theorem dX7_crumbsOf_40 : decode cX7_crumbsOf 40 = .ok (.aload_n 0, 1) := by decide +kernel
theorem dX7_crumbsOf_41 : decode cX7_crumbsOf 41 = .ok (.getfield 7, 3) := by decide +kernel
theorem dX7_crumbsOf_44 : decode cX7_crumbsOf 44 = .ok (.iconst 1, 1) := by decide +kernel
theorem dX7_crumbsOf_45 : decode cX7_crumbsOf 45 = .ok (.iload 4, 2) := by decide +kernel
theorem dX7_crumbsOf_47 : decode cX7_crumbsOf 47 = .ok (.iadd, 1) := by decide +kernel
theorem dX7_crumbsOf_48 : decode cX7_crumbsOf 48 = .ok (.iaload, 1) := by decide +kernel
theorem dX7_crumbsOf_49 : decode cX7_crumbsOf 49 = .ok (.iload_n 1, 1) := by decide +kernel
theorem dX7_crumbsOf_50 : decode cX7_crumbsOf 50 = .ok (.if_icmp .ne 16, 3) := by decide +kernel
theorem dX7_crumbsOf_53 : decode cX7_crumbsOf 53 = .ok (.iload_n 2, 1) := by decide +kernel
theorem dX7_crumbsOf_54 : decode cX7_crumbsOf 54 = .ok (.ifCond .eq 8, 3) := by decide +kernel
theorem dX7_crumbsOf_57 : decode cX7_crumbsOf 57 = .ok (.iload 5, 2) := by decide +kernel
theorem dX7_crumbsOf_59 : decode cX7_crumbsOf 59 = .ok (.ifCond .eq 7, 3) := by decide +kernel
theorem dX7_crumbsOf_62 : decode cX7_crumbsOf 62 = .ok (.iconst 1, 1) := by decide +kernel
theorem dX7_crumbsOf_63 : decode cX7_crumbsOf 63 = .ok (.goto 4, 3) := by decide +kernel
theorem dX7_crumbsOf_66 : decode cX7_crumbsOf 66 = .ok (.iconst 0, 1) := by decide +kernel
theorem dX7_crumbsOf_67 : decode cX7_crumbsOf 67 = .ok (.iadd, 1) := by decide +kernel
theorem dX7_crumbsOf_68 : decode cX7_crumbsOf 68 = .ok (.istore_n 3, 1) := by decide +kernel
theorem dX7_crumbsOf_69 : decode cX7_crumbsOf 69 = .ok (.iinc 4 1, 3) := by decide +kernel
theorem dX7_crumbsOf_72 : decode cX7_crumbsOf 72 = .ok (.goto (-67), 3) := by decide +kernel
theorem dX7_crumbsOf_75 : decode cX7_crumbsOf 75 = .ok (.iload_n 3, 1) := by decide +kernel
theorem dX7_crumbsOf_76 : decode cX7_crumbsOf 76 = .ok (.ireturn, 1) := by decide +kernel
set_option maxRecDepth 20000 in
theorem ggX7_guest_X7_isGuest : GoodIn wsX7_guest wsX7_isGuest := goodIn_r _ [5, 6, 7, 8, 4, 9, 36, 37, 38, 39, 40, 41, 42, 43, 44, 45, 46, 47, 48, 49, 50, 51] (by decide +kernel) (by decide +kernel)
set_option maxRecDepth 20000 in
theorem gX7_guest_X7_isGuest : GoodIn wsX7_guest (wsV RX7 43 RX7 yX7_isGuest wsX7_isGuest) := goodIn_app (goodIn_of _ (by decide +kernel)) ggX7_guest_X7_isGuest
set_option maxRecDepth 20000 in
theorem ggX7_guest_X7_total : GoodIn wsX7_guest wsX7_total := goodIn_r _ [13, 14, 15, 16, 4, 17, 18, 19, 20, 21, 6, 36, 37, 38, 39, 40, 41, 42, 43, 44, 45, 46, 47, 48, 49, 50, 51] (by decide +kernel) (by decide +kernel)
set_option maxRecDepth 20000 in
theorem gX7_guest_X7_total : GoodIn wsX7_guest (wsV RX7 65 RX7 yX7_total wsX7_total) := goodIn_app (goodIn_of _ (by decide +kernel)) ggX7_guest_X7_total
set_option maxRecDepth 20000 in
theorem ggX7_guest_X7_pieceValue : GoodIn wsX7_guest wsX7_pieceValue := goodIn_r _ [25, 6, 18, 19, 20, 4, 21, 36, 37, 38, 39, 40, 41, 42, 43, 44, 45, 46, 47, 48, 49, 50, 51] (by decide +kernel) (by decide +kernel)
set_option maxRecDepth 20000 in
theorem gX7_guest_X7_pieceValue : GoodIn wsX7_guest (wsV RX7 55 RX7 yX7_pieceValue wsX7_pieceValue) := goodIn_app (goodIn_of _ (by decide +kernel)) ggX7_guest_X7_pieceValue
set_option maxRecDepth 20000 in
theorem ggX7_guest_X7_crumbsOf : GoodIn wsX7_guest wsX7_crumbsOf := goodIn_r _ [29, 6, 36, 37, 38, 39, 40, 41, 42, 43, 44, 45, 46, 47, 48, 49, 50, 51] (by decide +kernel) (by decide +kernel)
set_option maxRecDepth 20000 in
theorem gX7_guest_X7_crumbsOf : GoodIn wsX7_guest (wsV RX7 124 RX7 yX7_crumbsOf wsX7_crumbsOf) := goodIn_app (goodIn_of _ (by decide +kernel)) ggX7_guest_X7_crumbsOf
set_option maxRecDepth 20000 in
theorem ggX7_guest_X7_part : GoodIn wsX7_guest wsX7_part := goodIn_r _ [32, 33, 34, 4, 35] (by decide +kernel) (by decide +kernel)
set_option maxRecDepth 20000 in
theorem gX7_guest_X7_part : GoodIn wsX7_guest (va_wsS RX7 128 yX7_part wsX7_part) := goodIn_app (goodIn_of _ (by decide +kernel)) ggX7_guest_X7_part
theorem dX7_guest_0 : decode cX7_guest 0 = .ok (.aload_n 0, 1) := by decide +kernel
theorem dX7_guest_1 : decode cX7_guest 1 = .ok (.iload_n 1, 1) := by decide +kernel
theorem dX7_guest_2 : decode cX7_guest 2 = .ok (.invokevirtual 43, 3) := by decide +kernel
theorem dX7_guest_5 : decode cX7_guest 5 = .ok (.ifCond .ne 5, 3) := by decide +kernel
theorem dX7_guest_8 : decode cX7_guest 8 = .ok (.iconst (-1), 1) := by decide +kernel
theorem dX7_guest_9 : decode cX7_guest 9 = .ok (.ireturn, 1) := by decide +kernel
theorem dX7_guest_10 : decode cX7_guest 10 = .ok (.iload_n 2, 1) := by decide +kernel
theorem dX7_guest_11 : decode cX7_guest 11 = .ok (.tableswitch 108 0 6 #[41, 47, 54, 61, 77, 93, 100], 41) := by decide +kernel
theorem dX7_guest_52 : decode cX7_guest 52 = .ok (.aload_n 0, 1) := by decide +kernel
theorem dX7_guest_53 : decode cX7_guest 53 = .ok (.iload_n 1, 1) := by decide +kernel
theorem dX7_guest_54 : decode cX7_guest 54 = .ok (.invokevirtual 65, 3) := by decide +kernel
theorem dX7_guest_57 : decode cX7_guest 57 = .ok (.ireturn, 1) := by decide +kernel
theorem dX7_guest_58 : decode cX7_guest 58 = .ok (.aload_n 0, 1) := by decide +kernel
theorem dX7_guest_59 : decode cX7_guest 59 = .ok (.iload_n 1, 1) := by decide +kernel
theorem dX7_guest_60 : decode cX7_guest 60 = .ok (.iload_n 1, 1) := by decide +kernel
theorem dX7_guest_61 : decode cX7_guest 61 = .ok (.invokevirtual 55, 3) := by decide +kernel
theorem dX7_guest_64 : decode cX7_guest 64 = .ok (.ireturn, 1) := by decide +kernel
theorem dX7_guest_65 : decode cX7_guest 65 = .ok (.aload_n 0, 1) := by decide +kernel
theorem dX7_guest_66 : decode cX7_guest 66 = .ok (.iload_n 1, 1) := by decide +kernel
theorem dX7_guest_67 : decode cX7_guest 67 = .ok (.iconst 0, 1) := by decide +kernel
theorem dX7_guest_68 : decode cX7_guest 68 = .ok (.invokevirtual 124, 3) := by decide +kernel
theorem dX7_guest_71 : decode cX7_guest 71 = .ok (.ireturn, 1) := by decide +kernel
theorem dX7_guest_72 : decode cX7_guest 72 = .ok (.aload_n 0, 1) := by decide +kernel
theorem dX7_guest_73 : decode cX7_guest 73 = .ok (.iload_n 1, 1) := by decide +kernel
theorem dX7_guest_74 : decode cX7_guest 74 = .ok (.iload_n 1, 1) := by decide +kernel
theorem dX7_guest_75 : decode cX7_guest 75 = .ok (.invokevirtual 55, 3) := by decide +kernel
theorem dX7_guest_78 : decode cX7_guest 78 = .ok (.aload_n 0, 1) := by decide +kernel
theorem dX7_guest_79 : decode cX7_guest 79 = .ok (.iload_n 1, 1) := by decide +kernel
theorem dX7_guest_80 : decode cX7_guest 80 = .ok (.invokevirtual 65, 3) := by decide +kernel
theorem dX7_guest_83 : decode cX7_guest 83 = .ok (.iconst 1, 1) := by decide +kernel
theorem dX7_guest_84 : decode cX7_guest 84 = .ok (.invokestatic 128, 3) := by decide +kernel
theorem dX7_guest_87 : decode cX7_guest 87 = .ok (.ireturn, 1) := by decide +kernel
theorem dX7_guest_88 : decode cX7_guest 88 = .ok (.aload_n 0, 1) := by decide +kernel
theorem dX7_guest_89 : decode cX7_guest 89 = .ok (.iload_n 1, 1) := by decide +kernel
theorem dX7_guest_90 : decode cX7_guest 90 = .ok (.iload_n 1, 1) := by decide +kernel
theorem dX7_guest_91 : decode cX7_guest 91 = .ok (.invokevirtual 55, 3) := by decide +kernel
theorem dX7_guest_94 : decode cX7_guest 94 = .ok (.aload_n 0, 1) := by decide +kernel
theorem dX7_guest_95 : decode cX7_guest 95 = .ok (.iload_n 1, 1) := by decide +kernel
theorem dX7_guest_96 : decode cX7_guest 96 = .ok (.invokevirtual 65, 3) := by decide +kernel
theorem dX7_guest_99 : decode cX7_guest 99 = .ok (.iconst 0, 1) := by decide +kernel
theorem dX7_guest_100 : decode cX7_guest 100 = .ok (.invokestatic 128, 3) := by decide +kernel
theorem dX7_guest_103 : decode cX7_guest 103 = .ok (.ireturn, 1) := by decide +kernel
theorem dX7_guest_104 : decode cX7_guest 104 = .ok (.aload_n 0, 1) := by decide +kernel
theorem dX7_guest_105 : decode cX7_guest 105 = .ok (.iload_n 1, 1) := by decide +kernel
theorem dX7_guest_106 : decode cX7_guest 106 = .ok (.iconst 1, 1) := by decide +kernel
theorem dX7_guest_107 : decode cX7_guest 107 = .ok (.invokevirtual 124, 3) := by decide +kernel
theorem dX7_guest_110 : decode cX7_guest 110 = .ok (.ireturn, 1) := by decide +kernel
theorem dX7_guest_111 : decode cX7_guest 111 = .ok (.aload_n 0, 1) := by decide +kernel
theorem dX7_guest_112 : decode cX7_guest 112 = .ok (.iload_n 1, 1) := by decide +kernel
theorem dX7_guest_113 : decode cX7_guest 113 = .ok (.bipush (-9), 2) := by decide +kernel
theorem dX7_guest_115 : decode cX7_guest 115 = .ok (.invokevirtual 55, 3) := by decide +kernel
theorem dX7_guest_118 : decode cX7_guest 118 = .ok (.ireturn, 1) := by decide +kernel
theorem dX7_guest_119 : decode cX7_guest 119 = .ok (.iconst (-1), 1) := by decide +kernel
theorem dX7_guest_120 : decode cX7_guest 120 = .ok (.ireturn, 1) := by decide +kernel
set_option maxRecDepth 20000 in
theorem ggX7_crumb_X7_in : GoodIn wsX7_crumb wsX7_in := goodIn_r _ [5] (by decide +kernel) (by decide +kernel)
set_option maxRecDepth 20000 in
theorem gX7_crumb_X7_in : GoodIn wsX7_crumb (va_wsS RX7 39 yX7_in wsX7_in) := goodIn_app (goodIn_of _ (by decide +kernel)) ggX7_crumb_X7_in
theorem dX7_crumb_0 : decode cX7_crumb 0 = .ok (.iload_n 1, 1) := by decide +kernel
theorem dX7_crumb_1 : decode cX7_crumb 1 = .ok (.iconst 0, 1) := by decide +kernel
theorem dX7_crumb_2 : decode cX7_crumb 2 = .ok (.bipush 23, 2) := by decide +kernel
theorem dX7_crumb_4 : decode cX7_crumb 4 = .ok (.invokestatic 39, 3) := by decide +kernel
theorem dX7_crumb_7 : decode cX7_crumb 7 = .ok (.ifCond .eq 14, 3) := by decide +kernel
theorem dX7_crumb_10 : decode cX7_crumb 10 = .ok (.aload_n 0, 1) := by decide +kernel
theorem dX7_crumb_11 : decode cX7_crumb 11 = .ok (.getfield 7, 3) := by decide +kernel
theorem dX7_crumb_14 : decode cX7_crumb 14 = .ok (.iconst 1, 1) := by decide +kernel
theorem dX7_crumb_15 : decode cX7_crumb 15 = .ok (.iload_n 1, 1) := by decide +kernel
theorem dX7_crumb_16 : decode cX7_crumb 16 = .ok (.iadd, 1) := by decide +kernel
theorem dX7_crumb_17 : decode cX7_crumb 17 = .ok (.iaload, 1) := by decide +kernel
theorem dX7_crumb_18 : decode cX7_crumb 18 = .ok (.goto 4, 3) := by decide +kernel
theorem dX7_crumb_21 : decode cX7_crumb 21 = .ok (.iconst (-1), 1) := by decide +kernel
theorem dX7_crumb_22 : decode cX7_crumb 22 = .ok (.ireturn, 1) := by decide +kernel
set_option maxRecDepth 20000 in
theorem ggX7_value_X7_isGuest : GoodIn wsX7_value wsX7_isGuest := goodIn_r _ [5, 6, 7, 8, 4, 9, 14, 15, 16, 17, 18, 19, 20, 21, 22, 23, 24, 25, 26, 27, 28, 29] (by decide +kernel) (by decide +kernel)
set_option maxRecDepth 20000 in
theorem gX7_value_X7_isGuest : GoodIn wsX7_value (wsV RX7 43 RX7 yX7_isGuest wsX7_isGuest) := goodIn_app (goodIn_of _ (by decide +kernel)) ggX7_value_X7_isGuest
set_option maxRecDepth 20000 in
theorem ggX7_value_X7_in : GoodIn wsX7_value wsX7_in := goodIn_r _ [9] (by decide +kernel) (by decide +kernel)
set_option maxRecDepth 20000 in
theorem gX7_value_X7_in : GoodIn wsX7_value (va_wsS RX7 39 yX7_in wsX7_in) := goodIn_app (goodIn_of _ (by decide +kernel)) ggX7_value_X7_in
set_option maxRecDepth 20000 in
theorem ggX7_value_X7_valueOf : GoodIn wsX7_value wsX7_valueOf := goodIn_r _ [13, 6, 14, 15, 16, 17, 18, 19, 20, 21, 22, 23, 24, 25, 26, 27, 28, 29] (by decide +kernel) (by decide +kernel)
set_option maxRecDepth 20000 in
theorem gX7_value_X7_valueOf : GoodIn wsX7_value (wsV RX7 47 RX7 yX7_valueOf wsX7_valueOf) := goodIn_app (goodIn_of _ (by decide +kernel)) ggX7_value_X7_valueOf
theorem dX7_value_0 : decode cX7_value 0 = .ok (.aload_n 0, 1) := by decide +kernel
theorem dX7_value_1 : decode cX7_value 1 = .ok (.iload_n 1, 1) := by decide +kernel
theorem dX7_value_2 : decode cX7_value 2 = .ok (.invokevirtual 43, 3) := by decide +kernel
theorem dX7_value_5 : decode cX7_value 5 = .ok (.ifCond .eq 22, 3) := by decide +kernel
theorem dX7_value_8 : decode cX7_value 8 = .ok (.iload_n 2, 1) := by decide +kernel
theorem dX7_value_9 : decode cX7_value 9 = .ok (.iconst 0, 1) := by decide +kernel
theorem dX7_value_10 : decode cX7_value 10 = .ok (.bipush 23, 2) := by decide +kernel
theorem dX7_value_12 : decode cX7_value 12 = .ok (.invokestatic 39, 3) := by decide +kernel
theorem dX7_value_15 : decode cX7_value 15 = .ok (.ifCond .eq 12, 3) := by decide +kernel
theorem dX7_value_18 : decode cX7_value 18 = .ok (.aload_n 0, 1) := by decide +kernel
theorem dX7_value_19 : decode cX7_value 19 = .ok (.iload_n 1, 1) := by decide +kernel
theorem dX7_value_20 : decode cX7_value 20 = .ok (.iload_n 2, 1) := by decide +kernel
theorem dX7_value_21 : decode cX7_value 21 = .ok (.invokevirtual 47, 3) := by decide +kernel
theorem dX7_value_24 : decode cX7_value 24 = .ok (.goto 4, 3) := by decide +kernel
theorem dX7_value_27 : decode cX7_value 27 = .ok (.iconst (-1), 1) := by decide +kernel
theorem dX7_value_28 : decode cX7_value 28 = .ok (.ireturn, 1) := by decide +kernel
set_option maxRecDepth 20000 in
theorem ggX7_envy_X7_areGuests : GoodIn wsX7_envy wsX7_areGuests := goodIn_r _ [5, 6, 7, 8, 4, 9, 10, 11, 12, 13, 26, 27, 28, 29, 30, 31, 32, 33, 34, 35, 36, 37, 38, 39, 40, 41] (by decide +kernel) (by decide +kernel)
set_option maxRecDepth 20000 in
theorem gX7_envy_X7_areGuests : GoodIn wsX7_envy (wsV RX7 96 RX7 yX7_areGuests wsX7_areGuests) := goodIn_app (goodIn_of _ (by decide +kernel)) ggX7_envy_X7_areGuests
set_option maxRecDepth 20000 in
theorem ggX7_envy_X7_envyOf : GoodIn wsX7_envy wsX7_envyOf := goodIn_r _ [17, 18, 19, 20, 4, 21, 10, 22, 23, 24, 25, 26, 27, 28, 29, 30, 31, 32, 33, 34, 35, 36, 37, 38, 39, 40, 41] (by decide +kernel) (by decide +kernel)
set_option maxRecDepth 20000 in
theorem gX7_envy_X7_envyOf : GoodIn wsX7_envy (wsV RX7 102 RX7 yX7_envyOf wsX7_envyOf) := goodIn_app (goodIn_of _ (by decide +kernel)) ggX7_envy_X7_envyOf
theorem dX7_envy_0 : decode cX7_envy 0 = .ok (.aload_n 0, 1) := by decide +kernel
theorem dX7_envy_1 : decode cX7_envy 1 = .ok (.iload_n 1, 1) := by decide +kernel
theorem dX7_envy_2 : decode cX7_envy 2 = .ok (.iload_n 2, 1) := by decide +kernel
theorem dX7_envy_3 : decode cX7_envy 3 = .ok (.invokevirtual 96, 3) := by decide +kernel
theorem dX7_envy_6 : decode cX7_envy 6 = .ok (.ifCond .eq 12, 3) := by decide +kernel
theorem dX7_envy_9 : decode cX7_envy 9 = .ok (.aload_n 0, 1) := by decide +kernel
theorem dX7_envy_10 : decode cX7_envy 10 = .ok (.iload_n 1, 1) := by decide +kernel
theorem dX7_envy_11 : decode cX7_envy 11 = .ok (.iload_n 2, 1) := by decide +kernel
theorem dX7_envy_12 : decode cX7_envy 12 = .ok (.invokevirtual 102, 3) := by decide +kernel
theorem dX7_envy_15 : decode cX7_envy 15 = .ok (.goto 4, 3) := by decide +kernel
theorem dX7_envy_18 : decode cX7_envy 18 = .ok (.iconst (-1), 1) := by decide +kernel
theorem dX7_envy_19 : decode cX7_envy 19 = .ok (.ireturn, 1) := by decide +kernel
set_option maxRecDepth 20000 in
theorem ggX7_ring_X7_layRing : GoodIn wsX7_ring wsX7_layRing := goodIn_r _ [6, 7, 8, 9, 10, 5, 11, 1, 12, 13, 14, 15, 16, 17, 18, 19, 20, 21, 22, 23, 24, 25, 26, 27, 28, 29, 30, 31, 32, 33, 34, 35, 36, 37, 38, 39] (by decide +kernel) (by decide +kernel)
set_option maxRecDepth 20000 in
theorem gX7_ring_X7_layRing : GoodIn wsX7_ring (wsV RX7 108 RX7 yX7_layRing wsX7_layRing) := goodIn_app (goodIn_of _ (by decide +kernel)) ggX7_ring_X7_layRing
theorem dX7_ring_0 : decode cX7_ring 0 = .ok (.iload_n 1, 1) := by decide +kernel
theorem dX7_ring_1 : decode cX7_ring 1 = .ok (.ifCond .ge 5, 3) := by decide +kernel
theorem dX7_ring_4 : decode cX7_ring 4 = .ok (.iconst (-1), 1) := by decide +kernel
theorem dX7_ring_5 : decode cX7_ring 5 = .ok (.ireturn, 1) := by decide +kernel
theorem dX7_ring_6 : decode cX7_ring 6 = .ok (.iload_n 1, 1) := by decide +kernel
theorem dX7_ring_7 : decode cX7_ring 7 = .ok (.aload_n 0, 1) := by decide +kernel
theorem dX7_ring_8 : decode cX7_ring 8 = .ok (.invokevirtual 108, 3) := by decide +kernel
theorem dX7_ring_11 : decode cX7_ring 11 = .ok (.if_icmp .ge 12, 3) := by decide +kernel
theorem dX7_ring_14 : decode cX7_ring 14 = .ok (.aload_n 0, 1) := by decide +kernel
theorem dX7_ring_15 : decode cX7_ring 15 = .ok (.getfield 19, 3) := by decide +kernel
theorem dX7_ring_18 : decode cX7_ring 18 = .ok (.iload_n 1, 1) := by decide +kernel
theorem dX7_ring_19 : decode cX7_ring 19 = .ok (.iaload, 1) := by decide +kernel
theorem dX7_ring_20 : decode cX7_ring 20 = .ok (.goto 5, 3) := by decide +kernel
theorem dX7_ring_23 : decode cX7_ring 23 = .ok (.bipush (-9), 2) := by decide +kernel
theorem dX7_ring_25 : decode cX7_ring 25 = .ok (.ireturn, 1) := by decide +kernel
set_option maxRecDepth 20000 in
theorem ggX7_middle_X7_isGuest : GoodIn wsX7_middle wsX7_isGuest := goodIn_r _ [5, 6, 7, 8, 4, 9, 22, 23, 24, 25, 26, 27, 28, 29, 30, 31, 32, 33, 34, 35, 36, 37] (by decide +kernel) (by decide +kernel)
set_option maxRecDepth 20000 in
theorem gX7_middle_X7_isGuest : GoodIn wsX7_middle (wsV RX7 43 RX7 yX7_isGuest wsX7_isGuest) := goodIn_app (goodIn_of _ (by decide +kernel)) ggX7_middle_X7_isGuest
set_option maxRecDepth 20000 in
theorem ggX7_middle_X7_cutAt : GoodIn wsX7_middle wsX7_cutAt := goodIn_r _ [13, 14, 15, 16, 4, 17, 18, 19, 20, 21, 6, 22, 23, 24, 25, 26, 27, 28, 29, 30, 31, 32, 33, 34, 35, 36, 37] (by decide +kernel) (by decide +kernel)
set_option maxRecDepth 20000 in
theorem gX7_middle_X7_cutAt : GoodIn wsX7_middle (wsV RX7 99 RX7 yX7_cutAt wsX7_cutAt) := goodIn_app (goodIn_of _ (by decide +kernel)) ggX7_middle_X7_cutAt
theorem dX7_middle_0 : decode cX7_middle 0 = .ok (.aload_n 0, 1) := by decide +kernel
theorem dX7_middle_1 : decode cX7_middle 1 = .ok (.iload_n 1, 1) := by decide +kernel
theorem dX7_middle_2 : decode cX7_middle 2 = .ok (.invokevirtual 43, 3) := by decide +kernel
theorem dX7_middle_5 : decode cX7_middle 5 = .ok (.ifCond .eq 14, 3) := by decide +kernel
theorem dX7_middle_8 : decode cX7_middle 8 = .ok (.aload_n 0, 1) := by decide +kernel
theorem dX7_middle_9 : decode cX7_middle 9 = .ok (.iload_n 1, 1) := by decide +kernel
theorem dX7_middle_10 : decode cX7_middle 10 = .ok (.iconst 0, 1) := by decide +kernel
theorem dX7_middle_11 : decode cX7_middle 11 = .ok (.bipush 23, 2) := by decide +kernel
theorem dX7_middle_13 : decode cX7_middle 13 = .ok (.invokevirtual 99, 3) := by decide +kernel
theorem dX7_middle_16 : decode cX7_middle 16 = .ok (.goto 4, 3) := by decide +kernel
theorem dX7_middle_19 : decode cX7_middle 19 = .ok (.iconst (-1), 1) := by decide +kernel
theorem dX7_middle_20 : decode cX7_middle 20 = .ok (.ireturn, 1) := by decide +kernel
theorem dX7_layGuests_0 : decode cX7_layGuests 0 = .ok (.iload_n 1, 1) := by decide +kernel
theorem dX7_layGuests_1 : decode cX7_layGuests 1 = .ok (.istore_n 2, 1) := by decide +kernel
theorem dX7_layGuests_2 : decode cX7_layGuests 2 = .ok (.iconst 0, 1) := by decide +kernel
theorem dX7_layGuests_3 : decode cX7_layGuests 3 = .ok (.istore_n 3, 1) := by decide +kernel
theorem dX7_layGuests_4 : decode cX7_layGuests 4 = .ok (.aload_n 0, 1) := by decide +kernel
theorem dX7_layGuests_5 : decode cX7_layGuests 5 = .ok (.getfield 7, 3) := by decide +kernel
theorem dX7_layGuests_8 : decode cX7_layGuests 8 = .ok (.iconst 0, 1) := by decide +kernel
theorem dX7_layGuests_9 : decode cX7_layGuests 9 = .ok (.iaload, 1) := by decide +kernel
theorem dX7_layGuests_10 : decode cX7_layGuests 10 = .ok (.iconst 1, 1) := by decide +kernel
theorem dX7_layGuests_11 : decode cX7_layGuests 11 = .ok (.isub, 1) := by decide +kernel
theorem dX7_layGuests_12 : decode cX7_layGuests 12 = .ok (.istore 4, 2) := by decide +kernel
theorem dX7_layGuests_14 : decode cX7_layGuests 14 = .ok (.iload 4, 2) := by decide +kernel
theorem dX7_layGuests_16 : decode cX7_layGuests 16 = .ok (.ifCond .lt 35, 3) := by decide +kernel
theorem dX7_layGuests_19 : decode cX7_layGuests 19 = .ok (.aload_n 0, 1) := by decide +kernel
theorem dX7_layGuests_20 : decode cX7_layGuests 20 = .ok (.getfield 25, 3) := by decide +kernel
theorem dX7_layGuests_23 : decode cX7_layGuests 23 = .ok (.iload 4, 2) := by decide +kernel
theorem dX7_layGuests_25 : decode cX7_layGuests 25 = .ok (.iload_n 2, 1) := by decide +kernel
theorem dX7_layGuests_26 : decode cX7_layGuests 26 = .ok (.iconst 4, 1) := by decide +kernel
theorem dX7_layGuests_27 : decode cX7_layGuests 27 = .ok (.irem, 1) := by decide +kernel
theorem dX7_layGuests_28 : decode cX7_layGuests 28 = .ok (.iastore, 1) := by decide +kernel
theorem dX7_layGuests_29 : decode cX7_layGuests 29 = .ok (.iload_n 2, 1) := by decide +kernel
theorem dX7_layGuests_30 : decode cX7_layGuests 30 = .ok (.iconst 4, 1) := by decide +kernel
theorem dX7_layGuests_31 : decode cX7_layGuests 31 = .ok (.idiv, 1) := by decide +kernel
theorem dX7_layGuests_32 : decode cX7_layGuests 32 = .ok (.istore_n 2, 1) := by decide +kernel
theorem dX7_layGuests_33 : decode cX7_layGuests 33 = .ok (.iload_n 3, 1) := by decide +kernel
theorem dX7_layGuests_34 : decode cX7_layGuests 34 = .ok (.iconst 1, 1) := by decide +kernel
theorem dX7_layGuests_35 : decode cX7_layGuests 35 = .ok (.aload_n 0, 1) := by decide +kernel
theorem dX7_layGuests_36 : decode cX7_layGuests 36 = .ok (.getfield 25, 3) := by decide +kernel
theorem dX7_layGuests_39 : decode cX7_layGuests 39 = .ok (.iload 4, 2) := by decide +kernel
theorem dX7_layGuests_41 : decode cX7_layGuests 41 = .ok (.iaload, 1) := by decide +kernel
theorem dX7_layGuests_42 : decode cX7_layGuests 42 = .ok (.ishl, 1) := by decide +kernel
theorem dX7_layGuests_43 : decode cX7_layGuests 43 = .ok (.ior, 1) := by decide +kernel
theorem dX7_layGuests_44 : decode cX7_layGuests 44 = .ok (.istore_n 3, 1) := by decide +kernel
theorem dX7_layGuests_45 : decode cX7_layGuests 45 = .ok (.iinc 4 (-1), 3) := by decide +kernel
theorem dX7_layGuests_48 : decode cX7_layGuests 48 = .ok (.goto (-34), 3) := by decide +kernel
theorem dX7_layGuests_51 : decode cX7_layGuests 51 = .ok (.iload_n 3, 1) := by decide +kernel
theorem dX7_layGuests_52 : decode cX7_layGuests 52 = .ok (.iconst 1, 1) := by decide +kernel
theorem dX7_layGuests_53 : decode cX7_layGuests 53 = .ok (.aload_n 0, 1) := by decide +kernel
theorem dX7_layGuests_54 : decode cX7_layGuests 54 = .ok (.getfield 7, 3) := by decide +kernel
theorem dX7_layGuests_57 : decode cX7_layGuests 57 = .ok (.iconst 0, 1) := by decide +kernel
theorem dX7_layGuests_58 : decode cX7_layGuests 58 = .ok (.iaload, 1) := by decide +kernel
theorem dX7_layGuests_59 : decode cX7_layGuests 59 = .ok (.ishl, 1) := by decide +kernel
theorem dX7_layGuests_60 : decode cX7_layGuests 60 = .ok (.iconst 1, 1) := by decide +kernel
theorem dX7_layGuests_61 : decode cX7_layGuests 61 = .ok (.isub, 1) := by decide +kernel
theorem dX7_layGuests_62 : decode cX7_layGuests 62 = .ok (.if_icmp .ne 7, 3) := by decide +kernel
theorem dX7_layGuests_65 : decode cX7_layGuests 65 = .ok (.iconst 1, 1) := by decide +kernel
theorem dX7_layGuests_66 : decode cX7_layGuests 66 = .ok (.goto 4, 3) := by decide +kernel
theorem dX7_layGuests_69 : decode cX7_layGuests 69 = .ok (.iconst 0, 1) := by decide +kernel
theorem dX7_layGuests_70 : decode cX7_layGuests 70 = .ok (.ireturn, 1) := by decide +kernel
set_option maxRecDepth 20000 in
theorem ggX7_weighs_X7_spanValue : GoodIn wsX7_weighs wsX7_spanValue := goodIn_r _ [12, 13, 14, 15, 11, 16, 1, 21, 22, 23, 24, 25, 26, 27, 28, 29, 30, 31, 32, 33, 34, 35, 36] (by decide +kernel) (by decide +kernel)
set_option maxRecDepth 20000 in
theorem gX7_weighs_X7_spanValue : GoodIn wsX7_weighs (wsV RX7 51 RX7 yX7_spanValue wsX7_spanValue) := goodIn_app (goodIn_of _ (by decide +kernel)) ggX7_weighs_X7_spanValue
set_option maxRecDepth 20000 in
theorem ggX7_weighs_X7_total : GoodIn wsX7_weighs wsX7_total := goodIn_r _ [20, 8, 9, 10, 11, 12, 13, 14, 15, 16, 1, 21, 22, 23, 24, 25, 26, 27, 28, 29, 30, 31, 32, 33, 34, 35, 36] (by decide +kernel) (by decide +kernel)
set_option maxRecDepth 20000 in
theorem gX7_weighs_X7_total : GoodIn wsX7_weighs (wsV RX7 65 RX7 yX7_total wsX7_total) := goodIn_app (goodIn_of _ (by decide +kernel)) ggX7_weighs_X7_total
theorem dX7_weighs_0 : decode cX7_weighs 0 = .ok (.iconst 1, 1) := by decide +kernel
theorem dX7_weighs_1 : decode cX7_weighs 1 = .ok (.istore_n 1, 1) := by decide +kernel
theorem dX7_weighs_2 : decode cX7_weighs 2 = .ok (.iconst 0, 1) := by decide +kernel
theorem dX7_weighs_3 : decode cX7_weighs 3 = .ok (.istore_n 2, 1) := by decide +kernel
theorem dX7_weighs_4 : decode cX7_weighs 4 = .ok (.iconst 0, 1) := by decide +kernel
theorem dX7_weighs_5 : decode cX7_weighs 5 = .ok (.istore_n 3, 1) := by decide +kernel
theorem dX7_weighs_6 : decode cX7_weighs 6 = .ok (.iload_n 3, 1) := by decide +kernel
theorem dX7_weighs_7 : decode cX7_weighs 7 = .ok (.aload_n 0, 1) := by decide +kernel
theorem dX7_weighs_8 : decode cX7_weighs 8 = .ok (.getfield 7, 3) := by decide +kernel
theorem dX7_weighs_11 : decode cX7_weighs 11 = .ok (.iconst 0, 1) := by decide +kernel
theorem dX7_weighs_12 : decode cX7_weighs 12 = .ok (.iaload, 1) := by decide +kernel
theorem dX7_weighs_13 : decode cX7_weighs 13 = .ok (.if_icmp .ge 98, 3) := by decide +kernel
theorem dX7_weighs_16 : decode cX7_weighs 16 = .ok (.aload_n 0, 1) := by decide +kernel
theorem dX7_weighs_17 : decode cX7_weighs 17 = .ok (.aload_n 0, 1) := by decide +kernel
theorem dX7_weighs_18 : decode cX7_weighs 18 = .ok (.getfield 25, 3) := by decide +kernel
theorem dX7_weighs_21 : decode cX7_weighs 21 = .ok (.iload_n 3, 1) := by decide +kernel
theorem dX7_weighs_22 : decode cX7_weighs 22 = .ok (.iaload, 1) := by decide +kernel
theorem dX7_weighs_23 : decode cX7_weighs 23 = .ok (.aload_n 0, 1) := by decide +kernel
theorem dX7_weighs_24 : decode cX7_weighs 24 = .ok (.getfield 22, 3) := by decide +kernel
theorem dX7_weighs_27 : decode cX7_weighs 27 = .ok (.iload_n 3, 1) := by decide +kernel
theorem dX7_weighs_28 : decode cX7_weighs 28 = .ok (.iaload, 1) := by decide +kernel
theorem dX7_weighs_29 : decode cX7_weighs 29 = .ok (.aload_n 0, 1) := by decide +kernel
theorem dX7_weighs_30 : decode cX7_weighs 30 = .ok (.getfield 22, 3) := by decide +kernel
theorem dX7_weighs_33 : decode cX7_weighs 33 = .ok (.iload_n 3, 1) := by decide +kernel
theorem dX7_weighs_34 : decode cX7_weighs 34 = .ok (.iconst 1, 1) := by decide +kernel
theorem dX7_weighs_35 : decode cX7_weighs 35 = .ok (.iadd, 1) := by decide +kernel
theorem dX7_weighs_36 : decode cX7_weighs 36 = .ok (.iaload, 1) := by decide +kernel
theorem dX7_weighs_37 : decode cX7_weighs 37 = .ok (.invokevirtual 51, 3) := by decide +kernel
theorem dX7_weighs_40 : decode cX7_weighs 40 = .ok (.istore 4, 2) := by decide +kernel
theorem dX7_weighs_42 : decode cX7_weighs 42 = .ok (.iload 4, 2) := by decide +kernel
theorem dX7_weighs_44 : decode cX7_weighs 44 = .ok (.ifCond .ne 7, 3) := by decide +kernel
theorem dX7_weighs_47 : decode cX7_weighs 47 = .ok (.iconst 1, 1) := by decide +kernel
theorem dX7_weighs_48 : decode cX7_weighs 48 = .ok (.goto 13, 3) := by decide +kernel
theorem dX7_weighs_51 : decode cX7_weighs 51 = .ok (.aload_n 0, 1) := by decide +kernel
theorem dX7_weighs_52 : decode cX7_weighs 52 = .ok (.aload_n 0, 1) := by decide +kernel
theorem dX7_weighs_53 : decode cX7_weighs 53 = .ok (.getfield 25, 3) := by decide +kernel
theorem dX7_weighs_56 : decode cX7_weighs 56 = .ok (.iload_n 3, 1) := by decide +kernel
theorem dX7_weighs_57 : decode cX7_weighs 57 = .ok (.iaload, 1) := by decide +kernel
theorem dX7_weighs_58 : decode cX7_weighs 58 = .ok (.invokevirtual 65, 3) := by decide +kernel
theorem dX7_weighs_61 : decode cX7_weighs 61 = .ok (.istore 5, 2) := by decide +kernel
theorem dX7_weighs_63 : decode cX7_weighs 63 = .ok (.iload 4, 2) := by decide +kernel
theorem dX7_weighs_65 : decode cX7_weighs 65 = .ok (.iload_n 2, 1) := by decide +kernel
theorem dX7_weighs_66 : decode cX7_weighs 66 = .ok (.imul, 1) := by decide +kernel
theorem dX7_weighs_67 : decode cX7_weighs 67 = .ok (.iload_n 1, 1) := by decide +kernel
theorem dX7_weighs_68 : decode cX7_weighs 68 = .ok (.iload 5, 2) := by decide +kernel
theorem dX7_weighs_70 : decode cX7_weighs 70 = .ok (.imul, 1) := by decide +kernel
theorem dX7_weighs_71 : decode cX7_weighs 71 = .ok (.if_icmp .ge 7, 3) := by decide +kernel
theorem dX7_weighs_74 : decode cX7_weighs 74 = .ok (.iconst 1, 1) := by decide +kernel
theorem dX7_weighs_75 : decode cX7_weighs 75 = .ok (.goto 4, 3) := by decide +kernel
theorem dX7_weighs_78 : decode cX7_weighs 78 = .ok (.iconst 0, 1) := by decide +kernel
theorem dX7_weighs_79 : decode cX7_weighs 79 = .ok (.istore 6, 2) := by decide +kernel
theorem dX7_weighs_81 : decode cX7_weighs 81 = .ok (.iload 6, 2) := by decide +kernel
theorem dX7_weighs_83 : decode cX7_weighs 83 = .ok (.ifCond .eq 8, 3) := by decide +kernel
theorem dX7_weighs_86 : decode cX7_weighs 86 = .ok (.iload 4, 2) := by decide +kernel
theorem dX7_weighs_88 : decode cX7_weighs 88 = .ok (.goto 4, 3) := by decide +kernel
theorem dX7_weighs_91 : decode cX7_weighs 91 = .ok (.iload_n 1, 1) := by decide +kernel
theorem dX7_weighs_92 : decode cX7_weighs 92 = .ok (.istore_n 1, 1) := by decide +kernel
theorem dX7_weighs_93 : decode cX7_weighs 93 = .ok (.iload 6, 2) := by decide +kernel
theorem dX7_weighs_95 : decode cX7_weighs 95 = .ok (.ifCond .eq 8, 3) := by decide +kernel
theorem dX7_weighs_98 : decode cX7_weighs 98 = .ok (.iload 5, 2) := by decide +kernel
theorem dX7_weighs_100 : decode cX7_weighs 100 = .ok (.goto 4, 3) := by decide +kernel
theorem dX7_weighs_103 : decode cX7_weighs 103 = .ok (.iload_n 2, 1) := by decide +kernel
theorem dX7_weighs_104 : decode cX7_weighs 104 = .ok (.istore_n 2, 1) := by decide +kernel
theorem dX7_weighs_105 : decode cX7_weighs 105 = .ok (.iinc 3 1, 3) := by decide +kernel
theorem dX7_weighs_108 : decode cX7_weighs 108 = .ok (.goto (-102), 3) := by decide +kernel
theorem dX7_weighs_111 : decode cX7_weighs 111 = .ok (.aload_n 0, 1) := by decide +kernel
theorem dX7_weighs_112 : decode cX7_weighs 112 = .ok (.getfield 132, 3) := by decide +kernel
theorem dX7_weighs_115 : decode cX7_weighs 115 = .ok (.ifCond .eq 18, 3) := by decide +kernel
theorem dX7_weighs_118 : decode cX7_weighs 118 = .ok (.iload_n 1, 1) := by decide +kernel
theorem dX7_weighs_119 : decode cX7_weighs 119 = .ok (.aload_n 0, 1) := by decide +kernel
theorem dX7_weighs_120 : decode cX7_weighs 120 = .ok (.getfield 132, 3) := by decide +kernel
theorem dX7_weighs_123 : decode cX7_weighs 123 = .ok (.imul, 1) := by decide +kernel
theorem dX7_weighs_124 : decode cX7_weighs 124 = .ok (.aload_n 0, 1) := by decide +kernel
theorem dX7_weighs_125 : decode cX7_weighs 125 = .ok (.getfield 135, 3) := by decide +kernel
theorem dX7_weighs_128 : decode cX7_weighs 128 = .ok (.iload_n 2, 1) := by decide +kernel
theorem dX7_weighs_129 : decode cX7_weighs 129 = .ok (.imul, 1) := by decide +kernel
theorem dX7_weighs_130 : decode cX7_weighs 130 = .ok (.if_icmp .le 48, 3) := by decide +kernel
theorem dX7_weighs_133 : decode cX7_weighs 133 = .ok (.aload_n 0, 1) := by decide +kernel
theorem dX7_weighs_134 : decode cX7_weighs 134 = .ok (.iload_n 1, 1) := by decide +kernel
theorem dX7_weighs_135 : decode cX7_weighs 135 = .ok (.putfield 135, 3) := by decide +kernel
theorem dX7_weighs_138 : decode cX7_weighs 138 = .ok (.aload_n 0, 1) := by decide +kernel
theorem dX7_weighs_139 : decode cX7_weighs 139 = .ok (.iload_n 2, 1) := by decide +kernel
theorem dX7_weighs_140 : decode cX7_weighs 140 = .ok (.putfield 132, 3) := by decide +kernel
theorem dX7_weighs_143 : decode cX7_weighs 143 = .ok (.aload_n 0, 1) := by decide +kernel
theorem dX7_weighs_144 : decode cX7_weighs 144 = .ok (.aload_n 0, 1) := by decide +kernel
theorem dX7_weighs_145 : decode cX7_weighs 145 = .ok (.getfield 25, 3) := by decide +kernel
theorem dX7_weighs_148 : decode cX7_weighs 148 = .ok (.iconst 0, 1) := by decide +kernel
theorem dX7_weighs_149 : decode cX7_weighs 149 = .ok (.iaload, 1) := by decide +kernel
theorem dX7_weighs_150 : decode cX7_weighs 150 = .ok (.putfield 138, 3) := by decide +kernel
theorem dX7_weighs_153 : decode cX7_weighs 153 = .ok (.iconst 0, 1) := by decide +kernel
theorem dX7_weighs_154 : decode cX7_weighs 154 = .ok (.istore_n 3, 1) := by decide +kernel
theorem dX7_weighs_155 : decode cX7_weighs 155 = .ok (.iload_n 3, 1) := by decide +kernel
theorem dX7_weighs_156 : decode cX7_weighs 156 = .ok (.iconst 5, 1) := by decide +kernel
theorem dX7_weighs_157 : decode cX7_weighs 157 = .ok (.if_icmp .ge 21, 3) := by decide +kernel
theorem dX7_weighs_160 : decode cX7_weighs 160 = .ok (.aload_n 0, 1) := by decide +kernel
theorem dX7_weighs_161 : decode cX7_weighs 161 = .ok (.getfield 28, 3) := by decide +kernel
theorem dX7_weighs_164 : decode cX7_weighs 164 = .ok (.iload_n 3, 1) := by decide +kernel
theorem dX7_weighs_165 : decode cX7_weighs 165 = .ok (.aload_n 0, 1) := by decide +kernel
theorem dX7_weighs_166 : decode cX7_weighs 166 = .ok (.getfield 22, 3) := by decide +kernel
theorem dX7_weighs_169 : decode cX7_weighs 169 = .ok (.iload_n 3, 1) := by decide +kernel
theorem dX7_weighs_170 : decode cX7_weighs 170 = .ok (.iaload, 1) := by decide +kernel
theorem dX7_weighs_171 : decode cX7_weighs 171 = .ok (.iastore, 1) := by decide +kernel
theorem dX7_weighs_172 : decode cX7_weighs 172 = .ok (.iinc 3 1, 3) := by decide +kernel
theorem dX7_weighs_175 : decode cX7_weighs 175 = .ok (.goto (-20), 3) := by decide +kernel
theorem dX7_weighs_178 : decode cX7_weighs 178 = .ok (.return_, 1) := by decide +kernel
set_option maxRecDepth 20000 in
theorem ggX7_isCalm_X7_spanValue : GoodIn wsX7_isCalm wsX7_spanValue := goodIn_r _ [8, 9, 10, 11, 7, 12, 1, 13, 14, 15, 16, 17, 18, 19, 20, 21, 22, 23, 24, 25, 26, 27, 28] (by decide +kernel) (by decide +kernel)
set_option maxRecDepth 20000 in
theorem gX7_isCalm_X7_spanValue : GoodIn wsX7_isCalm (wsV RX7 51 RX7 yX7_spanValue wsX7_spanValue) := goodIn_app (goodIn_of _ (by decide +kernel)) ggX7_isCalm_X7_spanValue
theorem dX7_isCalm_0 : decode cX7_isCalm 0 = .ok (.iconst 0, 1) := by decide +kernel
theorem dX7_isCalm_1 : decode cX7_isCalm 1 = .ok (.istore_n 1, 1) := by decide +kernel
theorem dX7_isCalm_2 : decode cX7_isCalm 2 = .ok (.iload_n 1, 1) := by decide +kernel
theorem dX7_isCalm_3 : decode cX7_isCalm 3 = .ok (.aload_n 0, 1) := by decide +kernel
theorem dX7_isCalm_4 : decode cX7_isCalm 4 = .ok (.getfield 7, 3) := by decide +kernel
theorem dX7_isCalm_7 : decode cX7_isCalm 7 = .ok (.iconst 0, 1) := by decide +kernel
theorem dX7_isCalm_8 : decode cX7_isCalm 8 = .ok (.iaload, 1) := by decide +kernel
theorem dX7_isCalm_9 : decode cX7_isCalm 9 = .ok (.if_icmp .ge 82, 3) := by decide +kernel
theorem dX7_isCalm_12 : decode cX7_isCalm 12 = .ok (.aload_n 0, 1) := by decide +kernel
theorem dX7_isCalm_13 : decode cX7_isCalm 13 = .ok (.aload_n 0, 1) := by decide +kernel
theorem dX7_isCalm_14 : decode cX7_isCalm 14 = .ok (.getfield 25, 3) := by decide +kernel
theorem dX7_isCalm_17 : decode cX7_isCalm 17 = .ok (.iload_n 1, 1) := by decide +kernel
theorem dX7_isCalm_18 : decode cX7_isCalm 18 = .ok (.iaload, 1) := by decide +kernel
theorem dX7_isCalm_19 : decode cX7_isCalm 19 = .ok (.aload_n 0, 1) := by decide +kernel
theorem dX7_isCalm_20 : decode cX7_isCalm 20 = .ok (.getfield 22, 3) := by decide +kernel
theorem dX7_isCalm_23 : decode cX7_isCalm 23 = .ok (.iload_n 1, 1) := by decide +kernel
theorem dX7_isCalm_24 : decode cX7_isCalm 24 = .ok (.iaload, 1) := by decide +kernel
theorem dX7_isCalm_25 : decode cX7_isCalm 25 = .ok (.aload_n 0, 1) := by decide +kernel
theorem dX7_isCalm_26 : decode cX7_isCalm 26 = .ok (.getfield 22, 3) := by decide +kernel
theorem dX7_isCalm_29 : decode cX7_isCalm 29 = .ok (.iload_n 1, 1) := by decide +kernel
theorem dX7_isCalm_30 : decode cX7_isCalm 30 = .ok (.iconst 1, 1) := by decide +kernel
theorem dX7_isCalm_31 : decode cX7_isCalm 31 = .ok (.iadd, 1) := by decide +kernel
theorem dX7_isCalm_32 : decode cX7_isCalm 32 = .ok (.iaload, 1) := by decide +kernel
theorem dX7_isCalm_33 : decode cX7_isCalm 33 = .ok (.invokevirtual 51, 3) := by decide +kernel
theorem dX7_isCalm_36 : decode cX7_isCalm 36 = .ok (.istore_n 2, 1) := by decide +kernel
theorem dX7_isCalm_37 : decode cX7_isCalm 37 = .ok (.iconst 0, 1) := by decide +kernel
theorem dX7_isCalm_38 : decode cX7_isCalm 38 = .ok (.istore_n 3, 1) := by decide +kernel
theorem dX7_isCalm_39 : decode cX7_isCalm 39 = .ok (.iload_n 3, 1) := by decide +kernel
theorem dX7_isCalm_40 : decode cX7_isCalm 40 = .ok (.aload_n 0, 1) := by decide +kernel
theorem dX7_isCalm_41 : decode cX7_isCalm 41 = .ok (.getfield 7, 3) := by decide +kernel
theorem dX7_isCalm_44 : decode cX7_isCalm 44 = .ok (.iconst 0, 1) := by decide +kernel
theorem dX7_isCalm_45 : decode cX7_isCalm 45 = .ok (.iaload, 1) := by decide +kernel
theorem dX7_isCalm_46 : decode cX7_isCalm 46 = .ok (.if_icmp .ge 39, 3) := by decide +kernel
theorem dX7_isCalm_49 : decode cX7_isCalm 49 = .ok (.aload_n 0, 1) := by decide +kernel
theorem dX7_isCalm_50 : decode cX7_isCalm 50 = .ok (.aload_n 0, 1) := by decide +kernel
theorem dX7_isCalm_51 : decode cX7_isCalm 51 = .ok (.getfield 25, 3) := by decide +kernel
theorem dX7_isCalm_54 : decode cX7_isCalm 54 = .ok (.iload_n 1, 1) := by decide +kernel
theorem dX7_isCalm_55 : decode cX7_isCalm 55 = .ok (.iaload, 1) := by decide +kernel
theorem dX7_isCalm_56 : decode cX7_isCalm 56 = .ok (.aload_n 0, 1) := by decide +kernel
theorem dX7_isCalm_57 : decode cX7_isCalm 57 = .ok (.getfield 22, 3) := by decide +kernel
theorem dX7_isCalm_60 : decode cX7_isCalm 60 = .ok (.iload_n 3, 1) := by decide +kernel
theorem dX7_isCalm_61 : decode cX7_isCalm 61 = .ok (.iaload, 1) := by decide +kernel
theorem dX7_isCalm_62 : decode cX7_isCalm 62 = .ok (.aload_n 0, 1) := by decide +kernel
theorem dX7_isCalm_63 : decode cX7_isCalm 63 = .ok (.getfield 22, 3) := by decide +kernel
theorem dX7_isCalm_66 : decode cX7_isCalm 66 = .ok (.iload_n 3, 1) := by decide +kernel
theorem dX7_isCalm_67 : decode cX7_isCalm 67 = .ok (.iconst 1, 1) := by decide +kernel
theorem dX7_isCalm_68 : decode cX7_isCalm 68 = .ok (.iadd, 1) := by decide +kernel
theorem dX7_isCalm_69 : decode cX7_isCalm 69 = .ok (.iaload, 1) := by decide +kernel
theorem dX7_isCalm_70 : decode cX7_isCalm 70 = .ok (.invokevirtual 51, 3) := by decide +kernel
theorem dX7_isCalm_73 : decode cX7_isCalm 73 = .ok (.iload_n 2, 1) := by decide +kernel
theorem dX7_isCalm_74 : decode cX7_isCalm 74 = .ok (.if_icmp .le 5, 3) := by decide +kernel
theorem dX7_isCalm_77 : decode cX7_isCalm 77 = .ok (.iconst 0, 1) := by decide +kernel
theorem dX7_isCalm_78 : decode cX7_isCalm 78 = .ok (.ireturn, 1) := by decide +kernel
theorem dX7_isCalm_79 : decode cX7_isCalm 79 = .ok (.iinc 3 1, 3) := by decide +kernel
theorem dX7_isCalm_82 : decode cX7_isCalm 82 = .ok (.goto (-43), 3) := by decide +kernel
theorem dX7_isCalm_85 : decode cX7_isCalm 85 = .ok (.iinc 1 1, 3) := by decide +kernel
theorem dX7_isCalm_88 : decode cX7_isCalm 88 = .ok (.goto (-86), 3) := by decide +kernel
theorem dX7_isCalm_91 : decode cX7_isCalm 91 = .ok (.iconst 1, 1) := by decide +kernel
theorem dX7_isCalm_92 : decode cX7_isCalm 92 = .ok (.ireturn, 1) := by decide +kernel
set_option maxRecDepth 20000 in
theorem ggX7_looksAt_X7_layGuests : GoodIn wsX7_looksAt wsX7_layGuests := goodIn_r _ [11, 1, 3, 36, 37, 38, 39, 40, 41, 42, 43, 44, 45, 46, 47, 48, 49, 50, 51] (by decide +kernel) (by decide +kernel)
set_option maxRecDepth 20000 in
theorem gX7_looksAt_X7_layGuests : GoodIn wsX7_looksAt (wsV RX7 141 RX7 yX7_layGuests wsX7_layGuests) := goodIn_app (goodIn_of _ (by decide +kernel)) ggX7_looksAt_X7_layGuests
set_option maxRecDepth 20000 in
theorem ggX7_looksAt_X7_weighs : GoodIn wsX7_looksAt wsX7_weighs := goodIn_r _ [15, 1, 3, 5, 16, 17, 18, 19, 20, 21, 22, 10, 23, 24, 25, 26, 27, 28, 29, 30, 31, 36, 37, 38, 39, 40, 41, 42, 43, 44, 45, 46, 47, 48, 49, 50, 51] (by decide +kernel) (by decide +kernel)
set_option maxRecDepth 20000 in
theorem gX7_looksAt_X7_weighs : GoodIn wsX7_looksAt (wsV RX7 144 RX7 yX7_weighs wsX7_weighs) := goodIn_app (goodIn_of _ (by decide +kernel)) ggX7_looksAt_X7_weighs
set_option maxRecDepth 20000 in
theorem ggX7_looksAt_X7_isCalm : GoodIn wsX7_looksAt wsX7_isCalm := goodIn_r _ [35, 1, 3, 5, 20, 21, 22, 10, 23, 24, 25, 26, 27, 36, 37, 38, 39, 40, 41, 42, 43, 44, 45, 46, 47, 48, 49, 50, 51] (by decide +kernel) (by decide +kernel)
set_option maxRecDepth 20000 in
theorem gX7_looksAt_X7_isCalm : GoodIn wsX7_looksAt (wsV RX7 147 RX7 yX7_isCalm wsX7_isCalm) := goodIn_app (goodIn_of _ (by decide +kernel)) ggX7_looksAt_X7_isCalm
theorem dX7_looksAt_0 : decode cX7_looksAt 0 = .ok (.iconst 1, 1) := by decide +kernel
theorem dX7_looksAt_1 : decode cX7_looksAt 1 = .ok (.istore_n 2, 1) := by decide +kernel
theorem dX7_looksAt_2 : decode cX7_looksAt 2 = .ok (.iconst 0, 1) := by decide +kernel
theorem dX7_looksAt_3 : decode cX7_looksAt 3 = .ok (.istore_n 3, 1) := by decide +kernel
theorem dX7_looksAt_4 : decode cX7_looksAt 4 = .ok (.iload_n 3, 1) := by decide +kernel
theorem dX7_looksAt_5 : decode cX7_looksAt 5 = .ok (.aload_n 0, 1) := by decide +kernel
theorem dX7_looksAt_6 : decode cX7_looksAt 6 = .ok (.getfield 7, 3) := by decide +kernel
theorem dX7_looksAt_9 : decode cX7_looksAt 9 = .ok (.iconst 0, 1) := by decide +kernel
theorem dX7_looksAt_10 : decode cX7_looksAt 10 = .ok (.iaload, 1) := by decide +kernel
theorem dX7_looksAt_11 : decode cX7_looksAt 11 = .ok (.if_icmp .ge 13, 3) := by decide +kernel
theorem dX7_looksAt_14 : decode cX7_looksAt 14 = .ok (.iload_n 2, 1) := by decide +kernel
theorem dX7_looksAt_15 : decode cX7_looksAt 15 = .ok (.iconst 4, 1) := by decide +kernel
theorem dX7_looksAt_16 : decode cX7_looksAt 16 = .ok (.imul, 1) := by decide +kernel
theorem dX7_looksAt_17 : decode cX7_looksAt 17 = .ok (.istore_n 2, 1) := by decide +kernel
theorem dX7_looksAt_18 : decode cX7_looksAt 18 = .ok (.iinc 3 1, 3) := by decide +kernel
theorem dX7_looksAt_21 : decode cX7_looksAt 21 = .ok (.goto (-17), 3) := by decide +kernel
theorem dX7_looksAt_24 : decode cX7_looksAt 24 = .ok (.iconst 0, 1) := by decide +kernel
theorem dX7_looksAt_25 : decode cX7_looksAt 25 = .ok (.istore_n 3, 1) := by decide +kernel
theorem dX7_looksAt_26 : decode cX7_looksAt 26 = .ok (.iload_n 3, 1) := by decide +kernel
theorem dX7_looksAt_27 : decode cX7_looksAt 27 = .ok (.iload_n 2, 1) := by decide +kernel
theorem dX7_looksAt_28 : decode cX7_looksAt 28 = .ok (.if_icmp .ge 93, 3) := by decide +kernel
theorem dX7_looksAt_31 : decode cX7_looksAt 31 = .ok (.aload_n 0, 1) := by decide +kernel
theorem dX7_looksAt_32 : decode cX7_looksAt 32 = .ok (.iload_n 3, 1) := by decide +kernel
theorem dX7_looksAt_33 : decode cX7_looksAt 33 = .ok (.invokevirtual 141, 3) := by decide +kernel
theorem dX7_looksAt_36 : decode cX7_looksAt 36 = .ok (.ifCond .eq 79, 3) := by decide +kernel
theorem dX7_looksAt_39 : decode cX7_looksAt 39 = .ok (.iload_n 1, 1) := by decide +kernel
theorem dX7_looksAt_40 : decode cX7_looksAt 40 = .ok (.ifCond .ne 10, 3) := by decide +kernel
theorem dX7_looksAt_43 : decode cX7_looksAt 43 = .ok (.aload_n 0, 1) := by decide +kernel
theorem dX7_looksAt_44 : decode cX7_looksAt 44 = .ok (.invokevirtual 144, 3) := by decide +kernel
theorem dX7_looksAt_47 : decode cX7_looksAt 47 = .ok (.goto 68, 3) := by decide +kernel
theorem dX7_looksAt_50 : decode cX7_looksAt 50 = .ok (.aload_n 0, 1) := by decide +kernel
theorem dX7_looksAt_51 : decode cX7_looksAt 51 = .ok (.invokevirtual 147, 3) := by decide +kernel
theorem dX7_looksAt_54 : decode cX7_looksAt 54 = .ok (.ifCond .eq 61, 3) := by decide +kernel
theorem dX7_looksAt_57 : decode cX7_looksAt 57 = .ok (.aload_n 0, 1) := by decide +kernel
theorem dX7_looksAt_58 : decode cX7_looksAt 58 = .ok (.aload_n 0, 1) := by decide +kernel
theorem dX7_looksAt_59 : decode cX7_looksAt 59 = .ok (.getfield 151, 3) := by decide +kernel
theorem dX7_looksAt_62 : decode cX7_looksAt 62 = .ok (.ifCond .ne 12, 3) := by decide +kernel
theorem dX7_looksAt_65 : decode cX7_looksAt 65 = .ok (.aload_n 0, 1) := by decide +kernel
theorem dX7_looksAt_66 : decode cX7_looksAt 66 = .ok (.getfield 25, 3) := by decide +kernel
theorem dX7_looksAt_69 : decode cX7_looksAt 69 = .ok (.iconst 0, 1) := by decide +kernel
theorem dX7_looksAt_70 : decode cX7_looksAt 70 = .ok (.iaload, 1) := by decide +kernel
theorem dX7_looksAt_71 : decode cX7_looksAt 71 = .ok (.goto 7, 3) := by decide +kernel
theorem dX7_looksAt_74 : decode cX7_looksAt 74 = .ok (.aload_n 0, 1) := by decide +kernel
theorem dX7_looksAt_75 : decode cX7_looksAt 75 = .ok (.getfield 154, 3) := by decide +kernel
theorem dX7_looksAt_78 : decode cX7_looksAt 78 = .ok (.putfield 154, 3) := by decide +kernel
theorem dX7_looksAt_81 : decode cX7_looksAt 81 = .ok (.aload_n 0, 1) := by decide +kernel
theorem dX7_looksAt_82 : decode cX7_looksAt 82 = .ok (.aload_n 0, 1) := by decide +kernel
theorem dX7_looksAt_83 : decode cX7_looksAt 83 = .ok (.getfield 151, 3) := by decide +kernel
theorem dX7_looksAt_86 : decode cX7_looksAt 86 = .ok (.ifCond .ne 12, 3) := by decide +kernel
theorem dX7_looksAt_89 : decode cX7_looksAt 89 = .ok (.aload_n 0, 1) := by decide +kernel
theorem dX7_looksAt_90 : decode cX7_looksAt 90 = .ok (.getfield 22, 3) := by decide +kernel
theorem dX7_looksAt_93 : decode cX7_looksAt 93 = .ok (.iconst 1, 1) := by decide +kernel
theorem dX7_looksAt_94 : decode cX7_looksAt 94 = .ok (.iaload, 1) := by decide +kernel
theorem dX7_looksAt_95 : decode cX7_looksAt 95 = .ok (.goto 7, 3) := by decide +kernel
theorem dX7_looksAt_98 : decode cX7_looksAt 98 = .ok (.aload_n 0, 1) := by decide +kernel
theorem dX7_looksAt_99 : decode cX7_looksAt 99 = .ok (.getfield 157, 3) := by decide +kernel
theorem dX7_looksAt_102 : decode cX7_looksAt 102 = .ok (.putfield 157, 3) := by decide +kernel
theorem dX7_looksAt_105 : decode cX7_looksAt 105 = .ok (.aload_n 0, 1) := by decide +kernel
theorem dX7_looksAt_106 : decode cX7_looksAt 106 = .ok (.dup, 1) := by decide +kernel
theorem dX7_looksAt_107 : decode cX7_looksAt 107 = .ok (.getfield 151, 3) := by decide +kernel
theorem dX7_looksAt_110 : decode cX7_looksAt 110 = .ok (.iconst 1, 1) := by decide +kernel
theorem dX7_looksAt_111 : decode cX7_looksAt 111 = .ok (.iadd, 1) := by decide +kernel
theorem dX7_looksAt_112 : decode cX7_looksAt 112 = .ok (.putfield 151, 3) := by decide +kernel
theorem dX7_looksAt_115 : decode cX7_looksAt 115 = .ok (.iinc 3 1, 3) := by decide +kernel
theorem dX7_looksAt_118 : decode cX7_looksAt 118 = .ok (.goto (-92), 3) := by decide +kernel
theorem dX7_looksAt_121 : decode cX7_looksAt 121 = .ok (.return_, 1) := by decide +kernel
set_option maxRecDepth 20000 in
theorem ggX7_searches_X7_looksAt : GoodIn wsX7_searches wsX7_looksAt := goodIn_r _ [9, 1, 3, 10, 11, 4, 12, 13, 14, 15, 8, 16, 17, 18, 19, 20, 2, 21, 22, 23, 24, 25, 26, 27, 28, 29, 30, 31, 32, 33, 34, 35, 36, 37, 38, 39, 40, 41, 42, 43, 44, 45, 46, 47, 48, 49, 50, 51, 52, 53, 54, 55] (by decide +kernel) (by decide +kernel)
set_option maxRecDepth 20000 in
theorem gX7_searches_X7_looksAt : GoodIn wsX7_searches (wsV RX7 160 RX7 yX7_looksAt wsX7_looksAt) := goodIn_app (goodIn_of _ (by decide +kernel)) ggX7_searches_X7_looksAt
theorem dX7_searches_0 : decode cX7_searches 0 = .ok (.aload_n 0, 1) := by decide +kernel
theorem dX7_searches_1 : decode cX7_searches 1 = .ok (.getfield 7, 3) := by decide +kernel
theorem dX7_searches_4 : decode cX7_searches 4 = .ok (.iconst 0, 1) := by decide +kernel
theorem dX7_searches_5 : decode cX7_searches 5 = .ok (.iaload, 1) := by decide +kernel
theorem dX7_searches_6 : decode cX7_searches 6 = .ok (.istore_n 2, 1) := by decide +kernel
theorem dX7_searches_7 : decode cX7_searches 7 = .ok (.aload_n 0, 1) := by decide +kernel
theorem dX7_searches_8 : decode cX7_searches 8 = .ok (.iconst 0, 1) := by decide +kernel
theorem dX7_searches_9 : decode cX7_searches 9 = .ok (.putfield 132, 3) := by decide +kernel
theorem dX7_searches_12 : decode cX7_searches 12 = .ok (.aload_n 0, 1) := by decide +kernel
theorem dX7_searches_13 : decode cX7_searches 13 = .ok (.iconst 0, 1) := by decide +kernel
theorem dX7_searches_14 : decode cX7_searches 14 = .ok (.putfield 151, 3) := by decide +kernel
theorem dX7_searches_17 : decode cX7_searches 17 = .ok (.bipush 23, 2) := by decide +kernel
theorem dX7_searches_19 : decode cX7_searches 19 = .ok (.istore_n 3, 1) := by decide +kernel
theorem dX7_searches_20 : decode cX7_searches 20 = .ok (.iconst 1, 1) := by decide +kernel
theorem dX7_searches_21 : decode cX7_searches 21 = .ok (.istore 4, 2) := by decide +kernel
theorem dX7_searches_23 : decode cX7_searches 23 = .ok (.iload 4, 2) := by decide +kernel
theorem dX7_searches_25 : decode cX7_searches 25 = .ok (.iload_n 2, 1) := by decide +kernel
theorem dX7_searches_26 : decode cX7_searches 26 = .ok (.iconst 1, 1) := by decide +kernel
theorem dX7_searches_27 : decode cX7_searches 27 = .ok (.if_icmp .le 7, 3) := by decide +kernel
theorem dX7_searches_30 : decode cX7_searches 30 = .ok (.iload_n 3, 1) := by decide +kernel
theorem dX7_searches_31 : decode cX7_searches 31 = .ok (.goto 4, 3) := by decide +kernel
theorem dX7_searches_34 : decode cX7_searches 34 = .ok (.iconst 1, 1) := by decide +kernel
theorem dX7_searches_35 : decode cX7_searches 35 = .ok (.if_icmp .gt 148, 3) := by decide +kernel
theorem dX7_searches_38 : decode cX7_searches 38 = .ok (.iload_n 2, 1) := by decide +kernel
theorem dX7_searches_39 : decode cX7_searches 39 = .ok (.iconst 2, 1) := by decide +kernel
theorem dX7_searches_40 : decode cX7_searches 40 = .ok (.if_icmp .le 10, 3) := by decide +kernel
theorem dX7_searches_43 : decode cX7_searches 43 = .ok (.iload 4, 2) := by decide +kernel
theorem dX7_searches_45 : decode cX7_searches 45 = .ok (.iconst 1, 1) := by decide +kernel
theorem dX7_searches_46 : decode cX7_searches 46 = .ok (.iadd, 1) := by decide +kernel
theorem dX7_searches_47 : decode cX7_searches 47 = .ok (.goto 4, 3) := by decide +kernel
theorem dX7_searches_50 : decode cX7_searches 50 = .ok (.iconst 1, 1) := by decide +kernel
theorem dX7_searches_51 : decode cX7_searches 51 = .ok (.istore 5, 2) := by decide +kernel
theorem dX7_searches_53 : decode cX7_searches 53 = .ok (.iload 5, 2) := by decide +kernel
theorem dX7_searches_55 : decode cX7_searches 55 = .ok (.iload_n 2, 1) := by decide +kernel
theorem dX7_searches_56 : decode cX7_searches 56 = .ok (.iconst 2, 1) := by decide +kernel
theorem dX7_searches_57 : decode cX7_searches 57 = .ok (.if_icmp .le 7, 3) := by decide +kernel
theorem dX7_searches_60 : decode cX7_searches 60 = .ok (.iload_n 3, 1) := by decide +kernel
theorem dX7_searches_61 : decode cX7_searches 61 = .ok (.goto 4, 3) := by decide +kernel
theorem dX7_searches_64 : decode cX7_searches 64 = .ok (.iconst 1, 1) := by decide +kernel
theorem dX7_searches_65 : decode cX7_searches 65 = .ok (.if_icmp .gt 112, 3) := by decide +kernel
theorem dX7_searches_68 : decode cX7_searches 68 = .ok (.iload_n 2, 1) := by decide +kernel
theorem dX7_searches_69 : decode cX7_searches 69 = .ok (.iconst 3, 1) := by decide +kernel
theorem dX7_searches_70 : decode cX7_searches 70 = .ok (.if_icmp .le 10, 3) := by decide +kernel
theorem dX7_searches_73 : decode cX7_searches 73 = .ok (.iload 5, 2) := by decide +kernel
theorem dX7_searches_75 : decode cX7_searches 75 = .ok (.iconst 1, 1) := by decide +kernel
theorem dX7_searches_76 : decode cX7_searches 76 = .ok (.iadd, 1) := by decide +kernel
theorem dX7_searches_77 : decode cX7_searches 77 = .ok (.goto 4, 3) := by decide +kernel
theorem dX7_searches_80 : decode cX7_searches 80 = .ok (.iconst 1, 1) := by decide +kernel
theorem dX7_searches_81 : decode cX7_searches 81 = .ok (.istore 6, 2) := by decide +kernel
theorem dX7_searches_83 : decode cX7_searches 83 = .ok (.iload 6, 2) := by decide +kernel
theorem dX7_searches_85 : decode cX7_searches 85 = .ok (.iload_n 2, 1) := by decide +kernel
theorem dX7_searches_86 : decode cX7_searches 86 = .ok (.iconst 3, 1) := by decide +kernel
theorem dX7_searches_87 : decode cX7_searches 87 = .ok (.if_icmp .le 7, 3) := by decide +kernel
theorem dX7_searches_90 : decode cX7_searches 90 = .ok (.iload_n 3, 1) := by decide +kernel
theorem dX7_searches_91 : decode cX7_searches 91 = .ok (.goto 4, 3) := by decide +kernel
theorem dX7_searches_94 : decode cX7_searches 94 = .ok (.iconst 1, 1) := by decide +kernel
theorem dX7_searches_95 : decode cX7_searches 95 = .ok (.if_icmp .gt 76, 3) := by decide +kernel
theorem dX7_searches_98 : decode cX7_searches 98 = .ok (.aload_n 0, 1) := by decide +kernel
theorem dX7_searches_99 : decode cX7_searches 99 = .ok (.getfield 22, 3) := by decide +kernel
theorem dX7_searches_102 : decode cX7_searches 102 = .ok (.iconst 1, 1) := by decide +kernel
theorem dX7_searches_103 : decode cX7_searches 103 = .ok (.iload_n 2, 1) := by decide +kernel
theorem dX7_searches_104 : decode cX7_searches 104 = .ok (.iconst 1, 1) := by decide +kernel
theorem dX7_searches_105 : decode cX7_searches 105 = .ok (.if_icmp .le 8, 3) := by decide +kernel
theorem dX7_searches_108 : decode cX7_searches 108 = .ok (.iload 4, 2) := by decide +kernel
theorem dX7_searches_110 : decode cX7_searches 110 = .ok (.goto 5, 3) := by decide +kernel
theorem dX7_searches_113 : decode cX7_searches 113 = .ok (.bipush 24, 2) := by decide +kernel
theorem dX7_searches_115 : decode cX7_searches 115 = .ok (.iastore, 1) := by decide +kernel
theorem dX7_searches_116 : decode cX7_searches 116 = .ok (.aload_n 0, 1) := by decide +kernel
theorem dX7_searches_117 : decode cX7_searches 117 = .ok (.getfield 22, 3) := by decide +kernel
theorem dX7_searches_120 : decode cX7_searches 120 = .ok (.iconst 2, 1) := by decide +kernel
theorem dX7_searches_121 : decode cX7_searches 121 = .ok (.iload_n 2, 1) := by decide +kernel
theorem dX7_searches_122 : decode cX7_searches 122 = .ok (.iconst 2, 1) := by decide +kernel
theorem dX7_searches_123 : decode cX7_searches 123 = .ok (.if_icmp .le 8, 3) := by decide +kernel
theorem dX7_searches_126 : decode cX7_searches 126 = .ok (.iload 5, 2) := by decide +kernel
theorem dX7_searches_128 : decode cX7_searches 128 = .ok (.goto 5, 3) := by decide +kernel
theorem dX7_searches_131 : decode cX7_searches 131 = .ok (.bipush 24, 2) := by decide +kernel
theorem dX7_searches_133 : decode cX7_searches 133 = .ok (.iastore, 1) := by decide +kernel
theorem dX7_searches_134 : decode cX7_searches 134 = .ok (.aload_n 0, 1) := by decide +kernel
theorem dX7_searches_135 : decode cX7_searches 135 = .ok (.getfield 22, 3) := by decide +kernel
theorem dX7_searches_138 : decode cX7_searches 138 = .ok (.iconst 3, 1) := by decide +kernel
theorem dX7_searches_139 : decode cX7_searches 139 = .ok (.iload_n 2, 1) := by decide +kernel
theorem dX7_searches_140 : decode cX7_searches 140 = .ok (.iconst 3, 1) := by decide +kernel
theorem dX7_searches_141 : decode cX7_searches 141 = .ok (.if_icmp .le 8, 3) := by decide +kernel
theorem dX7_searches_144 : decode cX7_searches 144 = .ok (.iload 6, 2) := by decide +kernel
theorem dX7_searches_146 : decode cX7_searches 146 = .ok (.goto 5, 3) := by decide +kernel
theorem dX7_searches_149 : decode cX7_searches 149 = .ok (.bipush 24, 2) := by decide +kernel
theorem dX7_searches_151 : decode cX7_searches 151 = .ok (.iastore, 1) := by decide +kernel
theorem dX7_searches_152 : decode cX7_searches 152 = .ok (.aload_n 0, 1) := by decide +kernel
theorem dX7_searches_153 : decode cX7_searches 153 = .ok (.getfield 22, 3) := by decide +kernel
theorem dX7_searches_156 : decode cX7_searches 156 = .ok (.iconst 4, 1) := by decide +kernel
theorem dX7_searches_157 : decode cX7_searches 157 = .ok (.bipush 24, 2) := by decide +kernel
theorem dX7_searches_159 : decode cX7_searches 159 = .ok (.iastore, 1) := by decide +kernel
theorem dX7_searches_160 : decode cX7_searches 160 = .ok (.aload_n 0, 1) := by decide +kernel
theorem dX7_searches_161 : decode cX7_searches 161 = .ok (.iload_n 1, 1) := by decide +kernel
theorem dX7_searches_162 : decode cX7_searches 162 = .ok (.invokevirtual 160, 3) := by decide +kernel
theorem dX7_searches_165 : decode cX7_searches 165 = .ok (.iinc 6 1, 3) := by decide +kernel
theorem dX7_searches_168 : decode cX7_searches 168 = .ok (.goto (-85), 3) := by decide +kernel
theorem dX7_searches_171 : decode cX7_searches 171 = .ok (.iinc 5 1, 3) := by decide +kernel
theorem dX7_searches_174 : decode cX7_searches 174 = .ok (.goto (-121), 3) := by decide +kernel
theorem dX7_searches_177 : decode cX7_searches 177 = .ok (.iinc 4 1, 3) := by decide +kernel
theorem dX7_searches_180 : decode cX7_searches 180 = .ok (.goto (-157), 3) := by decide +kernel
theorem dX7_searches_183 : decode cX7_searches 183 = .ok (.return_, 1) := by decide +kernel
set_option maxRecDepth 20000 in
theorem ggX7_best_X7_in : GoodIn wsX7_best wsX7_in := goodIn_r _ [9] (by decide +kernel) (by decide +kernel)
set_option maxRecDepth 20000 in
theorem gX7_best_X7_in : GoodIn wsX7_best (va_wsS RX7 39 yX7_in wsX7_in) := goodIn_app (goodIn_of _ (by decide +kernel)) ggX7_best_X7_in
set_option maxRecDepth 20000 in
theorem ggX7_best_X7_searches : GoodIn wsX7_best wsX7_searches := goodIn_r _ [13, 1, 3, 14, 15, 16, 17, 18, 8, 19, 20, 21, 22, 23, 24, 25, 26, 27, 28, 29, 30, 2, 4, 5, 31, 32, 33, 34, 35, 36, 37, 38, 39, 40, 41, 42, 43, 44, 45, 46, 53, 54, 55, 56, 57, 58, 59, 60, 61, 62, 63, 64, 65, 66, 67, 68] (by decide +kernel) (by decide +kernel)
set_option maxRecDepth 20000 in
theorem gX7_best_X7_searches : GoodIn wsX7_best (wsV RX7 164 RX7 yX7_searches wsX7_searches) := goodIn_app (goodIn_of _ (by decide +kernel)) ggX7_best_X7_searches
set_option maxRecDepth 20000 in
theorem ggX7_best_X7_part : GoodIn wsX7_best wsX7_part := goodIn_r _ [49, 50, 51, 8, 52] (by decide +kernel) (by decide +kernel)
set_option maxRecDepth 20000 in
theorem gX7_best_X7_part : GoodIn wsX7_best (va_wsS RX7 128 yX7_part wsX7_part) := goodIn_app (goodIn_of _ (by decide +kernel)) ggX7_best_X7_part
theorem dX7_best_0 : decode cX7_best 0 = .ok (.iload_n 1, 1) := by decide +kernel
theorem dX7_best_1 : decode cX7_best 1 = .ok (.iconst 0, 1) := by decide +kernel
theorem dX7_best_2 : decode cX7_best 2 = .ok (.iconst 5, 1) := by decide +kernel
theorem dX7_best_3 : decode cX7_best 3 = .ok (.invokestatic 39, 3) := by decide +kernel
theorem dX7_best_6 : decode cX7_best 6 = .ok (.ifCond .ne 5, 3) := by decide +kernel
theorem dX7_best_9 : decode cX7_best 9 = .ok (.iconst (-1), 1) := by decide +kernel
theorem dX7_best_10 : decode cX7_best 10 = .ok (.ireturn, 1) := by decide +kernel
theorem dX7_best_11 : decode cX7_best 11 = .ok (.aload_n 0, 1) := by decide +kernel
theorem dX7_best_12 : decode cX7_best 12 = .ok (.getfield 7, 3) := by decide +kernel
theorem dX7_best_15 : decode cX7_best 15 = .ok (.iconst 0, 1) := by decide +kernel
theorem dX7_best_16 : decode cX7_best 16 = .ok (.iaload, 1) := by decide +kernel
theorem dX7_best_17 : decode cX7_best 17 = .ok (.ifCond .ne 6, 3) := by decide +kernel
theorem dX7_best_20 : decode cX7_best 20 = .ok (.bipush (-2), 2) := by decide +kernel
theorem dX7_best_22 : decode cX7_best 22 = .ok (.ireturn, 1) := by decide +kernel
theorem dX7_best_23 : decode cX7_best 23 = .ok (.aload_n 0, 1) := by decide +kernel
theorem dX7_best_24 : decode cX7_best 24 = .ok (.iconst 0, 1) := by decide +kernel
theorem dX7_best_25 : decode cX7_best 25 = .ok (.invokevirtual 164, 3) := by decide +kernel
theorem dX7_best_28 : decode cX7_best 28 = .ok (.iload_n 1, 1) := by decide +kernel
theorem dX7_best_29 : decode cX7_best 29 = .ok (.iconst 2, 1) := by decide +kernel
theorem dX7_best_30 : decode cX7_best 30 = .ok (.if_icmp .ge 24, 3) := by decide +kernel
theorem dX7_best_33 : decode cX7_best 33 = .ok (.aload_n 0, 1) := by decide +kernel
theorem dX7_best_34 : decode cX7_best 34 = .ok (.getfield 135, 3) := by decide +kernel
theorem dX7_best_37 : decode cX7_best 37 = .ok (.aload_n 0, 1) := by decide +kernel
theorem dX7_best_38 : decode cX7_best 38 = .ok (.getfield 132, 3) := by decide +kernel
theorem dX7_best_41 : decode cX7_best 41 = .ok (.iload_n 1, 1) := by decide +kernel
theorem dX7_best_42 : decode cX7_best 42 = .ok (.ifCond .ne 7, 3) := by decide +kernel
theorem dX7_best_45 : decode cX7_best 45 = .ok (.iconst 1, 1) := by decide +kernel
theorem dX7_best_46 : decode cX7_best 46 = .ok (.goto 4, 3) := by decide +kernel
theorem dX7_best_49 : decode cX7_best 49 = .ok (.iconst 0, 1) := by decide +kernel
theorem dX7_best_50 : decode cX7_best 50 = .ok (.invokestatic 128, 3) := by decide +kernel
theorem dX7_best_53 : decode cX7_best 53 = .ok (.ireturn, 1) := by decide +kernel
theorem dX7_best_54 : decode cX7_best 54 = .ok (.iload_n 1, 1) := by decide +kernel
theorem dX7_best_55 : decode cX7_best 55 = .ok (.iconst 2, 1) := by decide +kernel
theorem dX7_best_56 : decode cX7_best 56 = .ok (.if_icmp .ne 10, 3) := by decide +kernel
theorem dX7_best_59 : decode cX7_best 59 = .ok (.aload_n 0, 1) := by decide +kernel
theorem dX7_best_60 : decode cX7_best 60 = .ok (.getfield 138, 3) := by decide +kernel
theorem dX7_best_63 : decode cX7_best 63 = .ok (.goto 28, 3) := by decide +kernel
theorem dX7_best_66 : decode cX7_best 66 = .ok (.iload_n 1, 1) := by decide +kernel
theorem dX7_best_67 : decode cX7_best 67 = .ok (.iconst 2, 1) := by decide +kernel
theorem dX7_best_68 : decode cX7_best 68 = .ok (.isub, 1) := by decide +kernel
theorem dX7_best_69 : decode cX7_best 69 = .ok (.aload_n 0, 1) := by decide +kernel
theorem dX7_best_70 : decode cX7_best 70 = .ok (.getfield 7, 3) := by decide +kernel
theorem dX7_best_73 : decode cX7_best 73 = .ok (.iconst 0, 1) := by decide +kernel
theorem dX7_best_74 : decode cX7_best 74 = .ok (.iaload, 1) := by decide +kernel
theorem dX7_best_75 : decode cX7_best 75 = .ok (.if_icmp .ge 14, 3) := by decide +kernel
theorem dX7_best_78 : decode cX7_best 78 = .ok (.aload_n 0, 1) := by decide +kernel
theorem dX7_best_79 : decode cX7_best 79 = .ok (.getfield 28, 3) := by decide +kernel
theorem dX7_best_82 : decode cX7_best 82 = .ok (.iload_n 1, 1) := by decide +kernel
theorem dX7_best_83 : decode cX7_best 83 = .ok (.iconst 2, 1) := by decide +kernel
theorem dX7_best_84 : decode cX7_best 84 = .ok (.isub, 1) := by decide +kernel
theorem dX7_best_85 : decode cX7_best 85 = .ok (.iaload, 1) := by decide +kernel
theorem dX7_best_86 : decode cX7_best 86 = .ok (.goto 5, 3) := by decide +kernel
theorem dX7_best_89 : decode cX7_best 89 = .ok (.bipush (-9), 2) := by decide +kernel
theorem dX7_best_91 : decode cX7_best 91 = .ok (.ireturn, 1) := by decide +kernel
set_option maxRecDepth 20000 in
theorem ggX7_calm_X7_in : GoodIn wsX7_calm wsX7_in := goodIn_r _ [8] (by decide +kernel) (by decide +kernel)
set_option maxRecDepth 20000 in
theorem gX7_calm_X7_in : GoodIn wsX7_calm (va_wsS RX7 39 yX7_in wsX7_in) := goodIn_app (goodIn_of _ (by decide +kernel)) ggX7_calm_X7_in
set_option maxRecDepth 20000 in
theorem ggX7_calm_X7_searches : GoodIn wsX7_calm wsX7_searches := goodIn_r _ [12, 1, 13, 2, 14, 15, 16, 17, 7, 18, 19, 3, 4, 20, 21, 22, 23, 24, 25, 26, 27, 28, 29, 30, 31, 32, 33, 34, 35, 36, 37, 38, 39, 40, 41, 42, 43, 44, 45, 46, 47, 48, 49, 50, 51, 52, 53, 54, 55, 56, 57, 58, 59, 60, 61, 62] (by decide +kernel) (by decide +kernel)
set_option maxRecDepth 20000 in
theorem gX7_calm_X7_searches : GoodIn wsX7_calm (wsV RX7 164 RX7 yX7_searches wsX7_searches) := goodIn_app (goodIn_of _ (by decide +kernel)) ggX7_calm_X7_searches
theorem dX7_calm_0 : decode cX7_calm 0 = .ok (.iload_n 1, 1) := by decide +kernel
theorem dX7_calm_1 : decode cX7_calm 1 = .ok (.iconst 0, 1) := by decide +kernel
theorem dX7_calm_2 : decode cX7_calm 2 = .ok (.iconst 2, 1) := by decide +kernel
theorem dX7_calm_3 : decode cX7_calm 3 = .ok (.invokestatic 39, 3) := by decide +kernel
theorem dX7_calm_6 : decode cX7_calm 6 = .ok (.ifCond .ne 5, 3) := by decide +kernel
theorem dX7_calm_9 : decode cX7_calm 9 = .ok (.iconst (-1), 1) := by decide +kernel
theorem dX7_calm_10 : decode cX7_calm 10 = .ok (.ireturn, 1) := by decide +kernel
theorem dX7_calm_11 : decode cX7_calm 11 = .ok (.aload_n 0, 1) := by decide +kernel
theorem dX7_calm_12 : decode cX7_calm 12 = .ok (.getfield 7, 3) := by decide +kernel
theorem dX7_calm_15 : decode cX7_calm 15 = .ok (.iconst 0, 1) := by decide +kernel
theorem dX7_calm_16 : decode cX7_calm 16 = .ok (.iaload, 1) := by decide +kernel
theorem dX7_calm_17 : decode cX7_calm 17 = .ok (.iconst 2, 1) := by decide +kernel
theorem dX7_calm_18 : decode cX7_calm 18 = .ok (.if_icmp .ge 6, 3) := by decide +kernel
theorem dX7_calm_21 : decode cX7_calm 21 = .ok (.bipush (-2), 2) := by decide +kernel
theorem dX7_calm_23 : decode cX7_calm 23 = .ok (.ireturn, 1) := by decide +kernel
theorem dX7_calm_24 : decode cX7_calm 24 = .ok (.aload_n 0, 1) := by decide +kernel
theorem dX7_calm_25 : decode cX7_calm 25 = .ok (.iconst 1, 1) := by decide +kernel
theorem dX7_calm_26 : decode cX7_calm 26 = .ok (.invokevirtual 164, 3) := by decide +kernel
theorem dX7_calm_29 : decode cX7_calm 29 = .ok (.iload_n 1, 1) := by decide +kernel
theorem dX7_calm_30 : decode cX7_calm 30 = .ok (.ifCond .ne 10, 3) := by decide +kernel
theorem dX7_calm_33 : decode cX7_calm 33 = .ok (.aload_n 0, 1) := by decide +kernel
theorem dX7_calm_34 : decode cX7_calm 34 = .ok (.getfield 151, 3) := by decide +kernel
theorem dX7_calm_37 : decode cX7_calm 37 = .ok (.goto 31, 3) := by decide +kernel
theorem dX7_calm_40 : decode cX7_calm 40 = .ok (.aload_n 0, 1) := by decide +kernel
theorem dX7_calm_41 : decode cX7_calm 41 = .ok (.getfield 151, 3) := by decide +kernel
theorem dX7_calm_44 : decode cX7_calm 44 = .ok (.ifCond .ne 8, 3) := by decide +kernel
theorem dX7_calm_47 : decode cX7_calm 47 = .ok (.bipush (-9), 2) := by decide +kernel
theorem dX7_calm_49 : decode cX7_calm 49 = .ok (.goto 19, 3) := by decide +kernel
theorem dX7_calm_52 : decode cX7_calm 52 = .ok (.iload_n 1, 1) := by decide +kernel
theorem dX7_calm_53 : decode cX7_calm 53 = .ok (.iconst 1, 1) := by decide +kernel
theorem dX7_calm_54 : decode cX7_calm 54 = .ok (.if_icmp .ne 10, 3) := by decide +kernel
theorem dX7_calm_57 : decode cX7_calm 57 = .ok (.aload_n 0, 1) := by decide +kernel
theorem dX7_calm_58 : decode cX7_calm 58 = .ok (.getfield 154, 3) := by decide +kernel
theorem dX7_calm_61 : decode cX7_calm 61 = .ok (.goto 7, 3) := by decide +kernel
theorem dX7_calm_64 : decode cX7_calm 64 = .ok (.aload_n 0, 1) := by decide +kernel
theorem dX7_calm_65 : decode cX7_calm 65 = .ok (.getfield 157, 3) := by decide +kernel
theorem dX7_calm_68 : decode cX7_calm 68 = .ok (.ireturn, 1) := by decide +kernel
set_option maxRecDepth 20000 in
theorem ggX7_calls_X7_isMove : GoodIn wsX7_calls wsX7_isMove := goodIn_r _ [5, 6, 7, 8, 4, 9, 38, 39, 40, 41, 42, 43, 44, 45, 46, 47, 48, 49, 50, 51, 52, 53] (by decide +kernel) (by decide +kernel)
set_option maxRecDepth 20000 in
theorem gX7_calls_X7_isMove : GoodIn wsX7_calls (wsV RX7 90 RX7 yX7_isMove wsX7_isMove) := goodIn_app (goodIn_of _ (by decide +kernel)) ggX7_calls_X7_isMove
set_option maxRecDepth 20000 in
theorem ggX7_calls_X7_copies : GoodIn wsX7_calls wsX7_copies := goodIn_r _ [13, 6, 38, 39, 40, 41, 42, 43, 44, 45, 46, 47, 48, 49, 50, 51, 52, 53] (by decide +kernel) (by decide +kernel)
set_option maxRecDepth 20000 in
theorem gX7_calls_X7_copies : GoodIn wsX7_calls (wsV RX7 35 RX7 yX7_copies wsX7_copies) := goodIn_app (goodIn_of _ (by decide +kernel)) ggX7_calls_X7_copies
set_option maxRecDepth 20000 in
theorem ggX7_calls_X7_moves : GoodIn wsX7_calls wsX7_moves := goodIn_r _ [17, 6, 18, 19, 20, 4, 21, 22, 23, 24, 25, 26, 27, 28, 29, 30, 31, 32, 33, 34, 35, 36, 37, 38, 39, 40, 41, 42, 43, 44, 45, 46, 47, 48, 49, 50, 51, 52, 53] (by decide +kernel) (by decide +kernel)
set_option maxRecDepth 20000 in
theorem gX7_calls_X7_moves : GoodIn wsX7_calls (wsV RX7 93 RX7 yX7_moves wsX7_moves) := goodIn_app (goodIn_of _ (by decide +kernel)) ggX7_calls_X7_moves
theorem dX7_calls_0 : decode cX7_calls 0 = .ok (.aload_n 0, 1) := by decide +kernel
theorem dX7_calls_1 : decode cX7_calls 1 = .ok (.iload_n 1, 1) := by decide +kernel
theorem dX7_calls_2 : decode cX7_calls 2 = .ok (.iload_n 2, 1) := by decide +kernel
theorem dX7_calls_3 : decode cX7_calls 3 = .ok (.invokevirtual 90, 3) := by decide +kernel
theorem dX7_calls_6 : decode cX7_calls 6 = .ok (.ifCond .ne 5, 3) := by decide +kernel
theorem dX7_calls_9 : decode cX7_calls 9 = .ok (.iconst (-1), 1) := by decide +kernel
theorem dX7_calls_10 : decode cX7_calls 10 = .ok (.ireturn, 1) := by decide +kernel
theorem dX7_calls_11 : decode cX7_calls 11 = .ok (.sipush 726, 3) := by decide +kernel
theorem dX7_calls_14 : decode cX7_calls 14 = .ok (.istore_n 3, 1) := by decide +kernel
theorem dX7_calls_15 : decode cX7_calls 15 = .ok (.aload_n 0, 1) := by decide +kernel
theorem dX7_calls_16 : decode cX7_calls 16 = .ok (.iconst 0, 1) := by decide +kernel
theorem dX7_calls_17 : decode cX7_calls 17 = .ok (.iload_n 3, 1) := by decide +kernel
theorem dX7_calls_18 : decode cX7_calls 18 = .ok (.invokevirtual 35, 3) := by decide +kernel
theorem dX7_calls_21 : decode cX7_calls 21 = .ok (.aload_n 0, 1) := by decide +kernel
theorem dX7_calls_22 : decode cX7_calls 22 = .ok (.iload_n 1, 1) := by decide +kernel
theorem dX7_calls_23 : decode cX7_calls 23 = .ok (.iload_n 2, 1) := by decide +kernel
theorem dX7_calls_24 : decode cX7_calls 24 = .ok (.invokevirtual 93, 3) := by decide +kernel
theorem dX7_calls_27 : decode cX7_calls 27 = .ok (.istore 4, 2) := by decide +kernel
theorem dX7_calls_29 : decode cX7_calls 29 = .ok (.aload_n 0, 1) := by decide +kernel
theorem dX7_calls_30 : decode cX7_calls 30 = .ok (.iload_n 3, 1) := by decide +kernel
theorem dX7_calls_31 : decode cX7_calls 31 = .ok (.iconst 0, 1) := by decide +kernel
theorem dX7_calls_32 : decode cX7_calls 32 = .ok (.invokevirtual 35, 3) := by decide +kernel
theorem dX7_calls_35 : decode cX7_calls 35 = .ok (.iload 4, 2) := by decide +kernel
theorem dX7_calls_37 : decode cX7_calls 37 = .ok (.ireturn, 1) := by decide +kernel
theorem dJ9_abs_0f7a4_0 : decode cJ9_abs_0f7a4 0 = .ok (.iload_n 0, 1) := by decide +kernel
theorem dJ9_abs_0f7a4_1 : decode cJ9_abs_0f7a4 1 = .ok (.ifCond .ge 8, 3) := by decide +kernel
theorem dJ9_abs_0f7a4_4 : decode cJ9_abs_0f7a4 4 = .ok (.iload_n 0, 1) := by decide +kernel
theorem dJ9_abs_0f7a4_5 : decode cJ9_abs_0f7a4 5 = .ok (.ineg, 1) := by decide +kernel
theorem dJ9_abs_0f7a4_6 : decode cJ9_abs_0f7a4 6 = .ok (.goto 4, 3) := by decide +kernel
theorem dJ9_abs_0f7a4_9 : decode cJ9_abs_0f7a4 9 = .ok (.iload_n 0, 1) := by decide +kernel
theorem dJ9_abs_0f7a4_10 : decode cJ9_abs_0f7a4 10 = .ok (.ireturn, 1) := by decide +kernel
theorem dJ9_max_7cf53_0 : decode cJ9_max_7cf53 0 = .ok (.iload_n 0, 1) := by decide +kernel
theorem dJ9_max_7cf53_1 : decode cJ9_max_7cf53 1 = .ok (.iload_n 1, 1) := by decide +kernel
theorem dJ9_max_7cf53_2 : decode cJ9_max_7cf53 2 = .ok (.if_icmp .lt 7, 3) := by decide +kernel
theorem dJ9_max_7cf53_5 : decode cJ9_max_7cf53 5 = .ok (.iload_n 0, 1) := by decide +kernel
theorem dJ9_max_7cf53_6 : decode cJ9_max_7cf53 6 = .ok (.goto 4, 3) := by decide +kernel
theorem dJ9_max_7cf53_9 : decode cJ9_max_7cf53 9 = .ok (.iload_n 1, 1) := by decide +kernel
theorem dJ9_max_7cf53_10 : decode cJ9_max_7cf53 10 = .ok (.ireturn, 1) := by decide +kernel
theorem dJ9_min_7cf53_0 : decode cJ9_min_7cf53 0 = .ok (.iload_n 0, 1) := by decide +kernel
theorem dJ9_min_7cf53_1 : decode cJ9_min_7cf53 1 = .ok (.iload_n 1, 1) := by decide +kernel
theorem dJ9_min_7cf53_2 : decode cJ9_min_7cf53 2 = .ok (.if_icmp .gt 7, 3) := by decide +kernel
theorem dJ9_min_7cf53_5 : decode cJ9_min_7cf53 5 = .ok (.iload_n 0, 1) := by decide +kernel
theorem dJ9_min_7cf53_6 : decode cJ9_min_7cf53 6 = .ok (.goto 4, 3) := by decide +kernel
theorem dJ9_min_7cf53_9 : decode cJ9_min_7cf53 9 = .ok (.iload_n 1, 1) := by decide +kernel
theorem dJ9_min_7cf53_10 : decode cJ9_min_7cf53 10 = .ok (.ireturn, 1) := by decide +kernel
set_option maxRecDepth 20000 in
theorem ggL_law_X6_init : GoodIn wsL_law wsX6_init := goodIn_r _ [8, 9, 10, 11, 12, 13, 14, 15, 16, 17, 18, 19, 20, 21, 22, 23, 24, 25, 26, 27, 28, 29, 30, 31, 32, 33, 34, 35, 36, 37, 38, 39, 40, 41, 42, 43, 44, 45, 46, 47, 48, 49, 50, 51, 52, 53, 54, 55, 56, 57, 58, 59, 60, 61, 62, 63, 64, 65, 66, 67, 68, 69, 70, 71, 72, 73, 74, 75, 76, 77, 78, 79, 80, 81, 82, 83, 84, 85, 86, 87, 88, 708, 709, 710, 684, 685, 686, 687, 688, 689, 690, 691, 711, 712, 713, 714, 715, 716, 717, 718, 719, 720, 721, 722, 723, 724, 725, 726, 727, 728, 729, 730, 731, 732, 733, 734, 735] (by decide +kernel) (by decide +kernel)
set_option maxRecDepth 20000 in
theorem gL_law_X6_init : GoodIn wsL_law (wsX6_init) := ggL_law_X6_init
set_option maxRecDepth 20000 in
theorem ggL_law_X7_init : GoodIn wsL_law wsX7_init := goodIn_r _ [91, 92, 10, 11, 40, 93, 94, 95, 96, 97, 98, 99, 692, 693, 694, 695, 696, 697, 698, 699, 700, 701, 702, 703, 704, 705, 706, 707] (by decide +kernel) (by decide +kernel)
set_option maxRecDepth 20000 in
theorem gL_law_X7_init : GoodIn wsL_law (wsX7_init) := ggL_law_X7_init
set_option maxRecDepth 20000 in
theorem ggL_law_X6_addGuest : GoodIn wsL_law wsX6_addGuest := goodIn_r _ [103, 15, 104, 105, 106, 107, 2, 108, 17, 16, 34, 109, 110, 111, 112, 113, 114, 115, 14, 116, 39, 41, 43, 117, 118, 119, 120, 121, 122, 123, 124, 125, 126, 127, 128, 129, 130, 131, 132, 133, 134, 135, 136, 684, 685, 686, 687, 688, 689, 690, 691, 708, 709, 710] (by decide +kernel) (by decide +kernel)
set_option maxRecDepth 20000 in
theorem gL_law_X6_addGuest : GoodIn wsL_law (wsV RL 13 RX6 yX6_addGuest wsX6_addGuest) := goodIn_app (goodIn_of _ (by decide +kernel)) ggL_law_X6_addGuest
set_option maxRecDepth 20000 in
theorem ggL_law_X7_addGuest : GoodIn wsL_law wsX7_addGuest := goodIn_r _ [140, 93, 141, 142, 143, 5, 144, 145, 146, 147, 148, 149, 692, 693, 694, 695, 696, 697, 698, 699, 700, 701, 702, 703, 704, 705, 706, 707] (by decide +kernel) (by decide +kernel)
set_option maxRecDepth 20000 in
theorem gL_law_X7_addGuest : GoodIn wsL_law (wsV RL 17 RX7 yX7_addGuest wsX7_addGuest) := goodIn_app (goodIn_of _ (by decide +kernel)) ggL_law_X7_addGuest
set_option maxRecDepth 20000 in
theorem ggL_law_X6_setValue : GoodIn wsL_law wsX6_setValue := goodIn_r _ [153, 15, 154, 155, 156, 14, 157, 39, 158, 159, 2, 160, 105, 106, 107, 108, 17, 16, 34, 109, 110, 111, 112, 113, 114, 115, 116, 41, 43, 117, 118, 119, 120, 121, 122, 123, 124, 125, 126, 127, 128, 161, 134, 135, 136, 162, 163, 164, 165, 166, 167, 168, 169, 684, 685, 686, 687, 688, 689, 690, 691, 708, 709, 710] (by decide +kernel) (by decide +kernel)
set_option maxRecDepth 20000 in
theorem gL_law_X6_setValue : GoodIn wsL_law (wsV RL 18 RX6 yX6_setValue wsX6_setValue) := goodIn_app (goodIn_of _ (by decide +kernel)) ggL_law_X6_setValue
set_option maxRecDepth 20000 in
theorem ggL_law_X7_setValue : GoodIn wsL_law wsX7_setValue := goodIn_r _ [173, 93, 174, 175, 176, 5, 177, 178, 179, 180, 181, 182, 183, 141, 142, 143, 144, 145, 146, 147, 148, 149, 184, 185, 186, 187, 188, 189, 190, 191, 192, 193, 194, 195, 692, 693, 694, 695, 696, 697, 698, 699, 700, 701, 702, 703, 704, 705, 706, 707] (by decide +kernel) (by decide +kernel)
set_option maxRecDepth 20000 in
theorem gL_law_X7_setValue : GoodIn wsL_law (wsV RL 22 RX7 yX7_setValue wsX7_setValue) := goodIn_app (goodIn_of _ (by decide +kernel)) ggL_law_X7_setValue
set_option maxRecDepth 20000 in
theorem ggL_law_X6_append : GoodIn wsL_law wsX6_append := goodIn_r _ [199, 21, 200, 201, 202, 203, 20, 204, 47, 48, 684, 685, 686, 687, 688, 689, 690, 691, 711, 712, 713, 714, 715] (by decide +kernel) (by decide +kernel)
set_option maxRecDepth 20000 in
theorem gL_law_X6_append : GoodIn wsL_law (wsV RL 23 RX6 yX6_append wsX6_append) := goodIn_app (goodIn_of _ (by decide +kernel)) ggL_law_X6_append
set_option maxRecDepth 20000 in
theorem ggL_law_X7_append : GoodIn wsL_law wsX7_append := goodIn_r _ [208, 209, 94, 178, 179, 5, 180, 692, 693, 694, 695, 696, 697, 698, 699, 700, 701, 702, 703, 704, 705, 706, 707] (by decide +kernel) (by decide +kernel)
set_option maxRecDepth 20000 in
theorem gL_law_X7_append : GoodIn wsL_law (wsV RL 27 RX7 yX7_append wsX7_append) := goodIn_app (goodIn_of _ (by decide +kernel)) ggL_law_X7_append
set_option maxRecDepth 20000 in
theorem ggL_law_X6_clearText : GoodIn wsL_law wsX6_clearText := goodIn_r _ [213, 21, 200, 684, 685, 686, 687, 688, 689, 690, 691, 711, 712, 713, 714, 715] (by decide +kernel) (by decide +kernel)
set_option maxRecDepth 20000 in
theorem gL_law_X6_clearText : GoodIn wsL_law (wsV RL 28 RX6 yX6_clearText wsX6_clearText) := goodIn_app (goodIn_of _ (by decide +kernel)) ggL_law_X6_clearText
set_option maxRecDepth 20000 in
theorem ggL_law_X7_clearText : GoodIn wsL_law wsX7_clearText := goodIn_r _ [217, 209, 692, 693, 694, 695, 696, 697, 698, 699, 700, 701, 702, 703, 704, 705, 706, 707] (by decide +kernel) (by decide +kernel)
set_option maxRecDepth 20000 in
theorem gL_law_X7_clearText : GoodIn wsL_law (wsV RL 31 RX7 yX7_clearText wsX7_clearText) := goodIn_app (goodIn_of _ (by decide +kernel)) ggL_law_X7_clearText
set_option maxRecDepth 20000 in
theorem ggL_law_X6_read : GoodIn wsL_law wsX6_read := goodIn_r _ [221, 15, 21, 222, 154, 155, 156, 14, 157, 39, 223, 224, 225, 20, 226, 50, 51, 47, 48, 227, 228, 229, 230, 49, 231, 232, 233, 234, 235, 236, 237, 238, 105, 106, 107, 2, 108, 17, 16, 34, 109, 110, 111, 112, 113, 114, 115, 116, 41, 43, 117, 118, 119, 120, 121, 122, 123, 124, 125, 126, 127, 128, 239, 162, 163, 164, 165, 166, 167, 168, 169, 684, 685, 686, 687, 688, 689, 690, 691, 711, 712, 713, 714, 715, 708, 709, 710] (by decide +kernel) (by decide +kernel)
set_option maxRecDepth 20000 in
theorem gL_law_X6_read : GoodIn wsL_law (wsV RL 32 RX6 yX6_read wsX6_read) := goodIn_app (goodIn_of _ (by decide +kernel)) ggL_law_X6_read
set_option maxRecDepth 20000 in
theorem ggL_law_X7_read : GoodIn wsL_law wsX7_read := goodIn_r _ [243, 244, 93, 95, 174, 175, 176, 5, 177, 178, 179, 180, 245, 246, 247, 248, 94, 209, 249, 250, 251, 252, 141, 142, 143, 144, 145, 146, 147, 148, 149, 184, 185, 186, 187, 188, 189, 190, 191, 192, 193, 194, 195, 692, 693, 694, 695, 696, 697, 698, 699, 700, 701, 702, 703, 704, 705, 706, 707] (by decide +kernel) (by decide +kernel)
set_option maxRecDepth 20000 in
theorem gL_law_X7_read : GoodIn wsL_law (wsV RL 35 RX7 yX7_read wsX7_read) := goodIn_app (goodIn_of _ (by decide +kernel)) ggL_law_X7_read
set_option maxRecDepth 20000 in
theorem ggL_law_X6_give : GoodIn wsL_law wsX6_give := goodIn_r _ [256, 15, 154, 155, 156, 14, 157, 39, 158, 159, 2, 160, 105, 106, 107, 108, 17, 16, 34, 109, 110, 111, 112, 113, 114, 115, 116, 41, 43, 117, 118, 119, 120, 121, 122, 123, 124, 125, 126, 127, 128, 257, 258, 259, 260, 684, 685, 686, 687, 688, 689, 690, 691, 708, 709, 710] (by decide +kernel) (by decide +kernel)
set_option maxRecDepth 20000 in
theorem gL_law_X6_give : GoodIn wsL_law (wsV RL 36 RX6 yX6_give wsX6_give) := goodIn_app (goodIn_of _ (by decide +kernel)) ggL_law_X6_give
set_option maxRecDepth 20000 in
theorem ggL_law_X7_give : GoodIn wsL_law wsX7_give := goodIn_r _ [264, 174, 175, 176, 5, 177, 93, 178, 179, 180, 181, 182, 183, 141, 142, 143, 144, 145, 146, 147, 148, 149, 265, 266, 267, 268, 692, 693, 694, 695, 696, 697, 698, 699, 700, 701, 702, 703, 704, 705, 706, 707] (by decide +kernel) (by decide +kernel)
set_option maxRecDepth 20000 in
theorem gL_law_X7_give : GoodIn wsL_law (wsV RL 40 RX7 yX7_give wsX7_give) := goodIn_app (goodIn_of _ (by decide +kernel)) ggL_law_X7_give
set_option maxRecDepth 20000 in
theorem ggL_law_X6_putBack : GoodIn wsL_law wsX6_putBack := goodIn_r _ [272, 15, 158, 159, 2, 160, 105, 106, 107, 108, 17, 16, 34, 109, 110, 111, 112, 113, 114, 115, 14, 116, 39, 41, 43, 117, 118, 119, 120, 121, 122, 123, 124, 125, 126, 127, 128, 273, 274, 275, 276, 684, 685, 686, 687, 688, 689, 690, 691, 708, 709, 710] (by decide +kernel) (by decide +kernel)
set_option maxRecDepth 20000 in
theorem gL_law_X6_putBack : GoodIn wsL_law (wsV RL 41 RX6 yX6_putBack wsX6_putBack) := goodIn_app (goodIn_of _ (by decide +kernel)) ggL_law_X6_putBack
set_option maxRecDepth 20000 in
theorem ggL_law_X7_putBack : GoodIn wsL_law wsX7_putBack := goodIn_r _ [280, 181, 182, 5, 183, 178, 179, 180, 141, 142, 143, 144, 145, 146, 147, 148, 149, 93, 265, 266, 267, 268, 692, 693, 694, 695, 696, 697, 698, 699, 700, 701, 702, 703, 704, 705, 706, 707] (by decide +kernel) (by decide +kernel)
set_option maxRecDepth 20000 in
theorem gL_law_X7_putBack : GoodIn wsL_law (wsV RL 45 RX7 yX7_putBack wsX7_putBack) := goodIn_app (goodIn_of _ (by decide +kernel)) ggL_law_X7_putBack
set_option maxRecDepth 20000 in
theorem ggL_law_X6_move : GoodIn wsL_law wsX6_move := goodIn_r _ [284, 25, 15, 285, 286, 287, 288, 2, 289, 104, 105, 106, 107, 108, 17, 16, 34, 109, 110, 111, 112, 113, 114, 115, 14, 116, 39, 41, 43, 117, 118, 119, 120, 121, 122, 123, 124, 125, 126, 127, 128, 290, 291, 292, 24, 293, 294, 55, 295, 296, 297, 298, 299, 300, 301, 302, 303, 304, 163, 164, 165, 166, 167, 168, 169, 305, 306, 307, 308, 309, 684, 685, 686, 687, 688, 689, 690, 691, 716, 708, 709, 710] (by decide +kernel) (by decide +kernel)
set_option maxRecDepth 20000 in
theorem gL_law_X6_move : GoodIn wsL_law (wsV RL 46 RX6 yX6_move wsX6_move) := goodIn_app (goodIn_of _ (by decide +kernel)) ggL_law_X6_move
set_option maxRecDepth 20000 in
theorem ggL_law_X7_move : GoodIn wsL_law wsX7_move := goodIn_r _ [313, 314, 315, 316, 5, 317, 93, 178, 179, 180, 141, 142, 143, 144, 145, 146, 147, 148, 149, 318, 319, 320, 321, 322, 323, 324, 325, 192, 193, 194, 195, 184, 185, 186, 187, 188, 189, 190, 191, 265, 266, 267, 268, 692, 693, 694, 695, 696, 697, 698, 699, 700, 701, 702, 703, 704, 705, 706, 707] (by decide +kernel) (by decide +kernel)
set_option maxRecDepth 20000 in
theorem gL_law_X7_move : GoodIn wsL_law (wsV RL 49 RX7 yX7_move wsX7_move) := goodIn_app (goodIn_of _ (by decide +kernel)) ggL_law_X7_move
set_option maxRecDepth 20000 in
theorem ggL_law_X6_cut : GoodIn wsL_law wsX6_cut := goodIn_r _ [329, 15, 330, 331, 332, 2, 333, 154, 155, 156, 14, 157, 39, 158, 159, 160, 334, 335, 336, 337, 41, 105, 106, 107, 108, 17, 16, 34, 109, 110, 111, 112, 113, 114, 115, 116, 43, 117, 118, 119, 120, 121, 122, 123, 124, 125, 126, 127, 128, 338, 339, 340, 341, 342, 343, 344, 345, 166, 167, 168, 169, 346, 257, 258, 259, 260, 684, 685, 686, 687, 688, 689, 690, 691, 708, 709, 710] (by decide +kernel) (by decide +kernel)
set_option maxRecDepth 20000 in
theorem gL_law_X6_cut : GoodIn wsL_law (wsV RL 50 RX6 yX6_cut wsX6_cut) := goodIn_app (goodIn_of _ (by decide +kernel)) ggL_law_X6_cut
set_option maxRecDepth 20000 in
theorem ggL_law_X7_cut : GoodIn wsL_law wsX7_cut := goodIn_r _ [350, 93, 351, 352, 353, 5, 354, 174, 175, 176, 177, 178, 179, 180, 141, 142, 143, 144, 145, 146, 147, 148, 149, 355, 356, 357, 358, 188, 189, 190, 191, 192, 193, 194, 195, 265, 266, 267, 268, 692, 693, 694, 695, 696, 697, 698, 699, 700, 701, 702, 703, 704, 705, 706, 707] (by decide +kernel) (by decide +kernel)
set_option maxRecDepth 20000 in
theorem gL_law_X7_cut : GoodIn wsL_law (wsV RL 53 RX7 yX7_cut wsX7_cut) := goodIn_app (goodIn_of _ (by decide +kernel)) ggL_law_X7_cut
set_option maxRecDepth 20000 in
theorem ggL_law_X6_trim : GoodIn wsL_law wsX6_trim := goodIn_r _ [362, 15, 330, 331, 332, 2, 333, 154, 155, 156, 14, 157, 39, 105, 106, 107, 108, 17, 16, 34, 109, 110, 111, 112, 113, 114, 115, 116, 41, 43, 117, 118, 119, 120, 121, 122, 123, 124, 125, 126, 127, 128, 363, 364, 365, 366, 367, 368, 369, 370, 371, 301, 302, 303, 684, 685, 686, 687, 688, 689, 690, 691, 708, 709, 710] (by decide +kernel) (by decide +kernel)
set_option maxRecDepth 20000 in
theorem gL_law_X6_trim : GoodIn wsL_law (wsV RL 54 RX6 yX6_trim wsX6_trim) := goodIn_app (goodIn_of _ (by decide +kernel)) ggL_law_X6_trim
set_option maxRecDepth 20000 in
theorem ggL_law_X7_trim : GoodIn wsL_law wsX7_trim := goodIn_r _ [375, 93, 351, 352, 353, 5, 354, 174, 175, 176, 177, 178, 179, 180, 141, 142, 143, 144, 145, 146, 147, 148, 149, 376, 377, 378, 379, 380, 381, 382, 383, 192, 193, 194, 195, 692, 693, 694, 695, 696, 697, 698, 699, 700, 701, 702, 703, 704, 705, 706, 707] (by decide +kernel) (by decide +kernel)
set_option maxRecDepth 20000 in
theorem gL_law_X7_trim : GoodIn wsL_law (wsV RL 57 RX7 yX7_trim wsX7_trim) := goodIn_app (goodIn_of _ (by decide +kernel)) ggL_law_X7_trim
set_option maxRecDepth 20000 in
theorem ggL_law_X6_exchange : GoodIn wsL_law wsX6_exchange := goodIn_r _ [387, 29, 15, 388, 389, 390, 391, 28, 392, 393, 62, 394, 395, 396, 397, 398, 63, 399, 400, 401, 14, 402, 403, 404, 344, 405, 367, 368, 369, 370, 371, 301, 302, 303, 41, 43, 406, 407, 408, 61, 409, 410, 411, 412, 68, 69, 413, 414, 415, 416, 67, 417, 418, 419, 420, 421, 422, 423, 424, 425, 426, 427, 428, 429, 430, 105, 106, 107, 2, 108, 17, 16, 34, 109, 110, 111, 112, 113, 114, 115, 116, 39, 117, 118, 119, 120, 121, 122, 123, 124, 125, 126, 127, 128, 431, 432, 433, 434, 435, 436, 437, 438, 439, 440, 684, 685, 686, 687, 688, 689, 690, 691, 717, 718, 708, 709, 710, 733, 734, 735] (by decide +kernel) (by decide +kernel)
set_option maxRecDepth 20000 in
theorem gL_law_X6_exchange : GoodIn wsL_law (wsV RL 58 RX6 yX6_exchange wsX6_exchange) := goodIn_app (goodIn_of _ (by decide +kernel)) ggL_law_X6_exchange
set_option maxRecDepth 20000 in
theorem ggL_law_X7_exchange : GoodIn wsL_law wsX7_exchange := goodIn_r _ [444, 93, 96, 445, 446, 447, 5, 448, 449, 450, 451, 452, 376, 377, 378, 379, 380, 381, 382, 383, 192, 193, 194, 195, 141, 142, 143, 144, 145, 146, 147, 148, 149, 692, 693, 694, 695, 696, 697, 698, 699, 700, 701, 702, 703, 704, 705, 706, 707] (by decide +kernel) (by decide +kernel)
set_option maxRecDepth 20000 in
theorem gL_law_X7_exchange : GoodIn wsL_law (wsV RL 61 RX7 yX7_exchange wsX7_exchange) := goodIn_app (goodIn_of _ (by decide +kernel)) ggL_law_X7_exchange
set_option maxRecDepth 20000 in
theorem ggL_law_X6_undo : GoodIn wsL_law wsX6_undo := goodIn_r _ [456, 17, 15, 16, 34, 113, 114, 115, 14, 116, 39, 41, 43, 117, 118, 119, 120, 121, 122, 123, 124, 125, 126, 127, 128, 684, 685, 686, 687, 688, 689, 690, 691, 708, 709, 710] (by decide +kernel) (by decide +kernel)
set_option maxRecDepth 20000 in
theorem gL_law_X6_undo : GoodIn wsL_law (wsV RL 62 RX6 yX6_undo wsX6_undo) := goodIn_app (goodIn_of _ (by decide +kernel)) ggL_law_X6_undo
set_option maxRecDepth 20000 in
theorem ggL_law_X7_undo : GoodIn wsL_law wsX7_undo := goodIn_r _ [460, 145, 146, 147, 148, 5, 149, 93, 692, 693, 694, 695, 696, 697, 698, 699, 700, 701, 702, 703, 704, 705, 706, 707] (by decide +kernel) (by decide +kernel)
set_option maxRecDepth 20000 in
theorem gL_law_X7_undo : GoodIn wsL_law (wsV RL 65 RX7 yX7_undo wsX7_undo) := goodIn_app (goodIn_of _ (by decide +kernel)) ggL_law_X7_undo
set_option maxRecDepth 20000 in
theorem ggL_law_X6_count : GoodIn wsL_law wsX6_count := goodIn_r _ [464, 15, 104, 17, 21, 200, 465, 466, 467, 14, 468, 41, 469, 470, 471, 472, 39, 473, 400, 401, 402, 403, 404, 344, 405, 367, 368, 369, 370, 371, 301, 302, 303, 43, 474, 475, 476, 477, 478, 479, 480, 481, 482, 163, 164, 165, 166, 167, 168, 169, 684, 685, 686, 687, 688, 689, 690, 691, 708, 709, 710, 711, 712, 713, 714, 715] (by decide +kernel) (by decide +kernel)
set_option maxRecDepth 20000 in
theorem gL_law_X6_count : GoodIn wsL_law (wsV RL 66 RX6 yX6_count wsX6_count) := goodIn_app (goodIn_of _ (by decide +kernel)) ggL_law_X6_count
set_option maxRecDepth 20000 in
theorem ggL_law_X7_count : GoodIn wsL_law wsX7_count := goodIn_r _ [486, 93, 145, 209, 487, 488, 489, 5, 490, 491, 492, 493, 494, 376, 377, 378, 379, 380, 381, 382, 383, 192, 193, 194, 195, 495, 496, 497, 498, 184, 185, 186, 187, 188, 189, 190, 191, 692, 693, 694, 695, 696, 697, 698, 699, 700, 701, 702, 703, 704, 705, 706, 707] (by decide +kernel) (by decide +kernel)
set_option maxRecDepth 20000 in
theorem gL_law_X7_count : GoodIn wsL_law (wsV RL 69 RX7 yX7_count wsX7_count) := goodIn_app (goodIn_of _ (by decide +kernel)) ggL_law_X7_count
set_option maxRecDepth 20000 in
theorem ggL_law_X6_guest : GoodIn wsL_law wsX6_guest := goodIn_r _ [502, 15, 154, 155, 156, 14, 157, 39, 162, 163, 164, 165, 166, 167, 168, 169, 43, 503, 368, 369, 370, 371, 301, 302, 303, 41, 465, 466, 467, 468, 504, 505, 2, 506, 507, 508, 509, 510, 511, 512, 513, 514, 515, 516, 517, 684, 685, 686, 687, 688, 689, 690, 691, 708, 709, 710] (by decide +kernel) (by decide +kernel)
set_option maxRecDepth 20000 in
theorem gL_law_X6_guest : GoodIn wsL_law (wsV RL 70 RX6 yX6_guest wsX6_guest) := goodIn_app (goodIn_of _ (by decide +kernel)) ggL_law_X6_guest
set_option maxRecDepth 20000 in
theorem ggL_law_X7_guest : GoodIn wsL_law wsX7_guest := goodIn_r _ [521, 174, 175, 176, 5, 177, 93, 178, 179, 180, 184, 185, 186, 187, 188, 189, 190, 191, 192, 193, 194, 195, 380, 381, 382, 383, 522, 523, 524, 525, 526, 527, 528, 529, 530, 531, 692, 693, 694, 695, 696, 697, 698, 699, 700, 701, 702, 703, 704, 705, 706, 707] (by decide +kernel) (by decide +kernel)
set_option maxRecDepth 20000 in
theorem gL_law_X7_guest : GoodIn wsL_law (wsV RL 73 RX7 yX7_guest wsX7_guest) := goodIn_app (goodIn_of _ (by decide +kernel)) ggL_law_X7_guest
set_option maxRecDepth 20000 in
theorem ggL_law_X6_crumb : GoodIn wsL_law wsX6_crumb := goodIn_r _ [535, 15, 536, 684, 685, 686, 687, 688, 689, 690, 691, 708, 709, 710] (by decide +kernel) (by decide +kernel)
set_option maxRecDepth 20000 in
theorem gL_law_X6_crumb : GoodIn wsL_law (wsV RL 74 RX6 yX6_crumb wsX6_crumb) := goodIn_app (goodIn_of _ (by decide +kernel)) ggL_law_X6_crumb
set_option maxRecDepth 20000 in
theorem ggL_law_X7_crumb : GoodIn wsL_law wsX7_crumb := goodIn_r _ [540, 93, 178, 179, 5, 180, 692, 693, 694, 695, 696, 697, 698, 699, 700, 701, 702, 703, 704, 705, 706, 707] (by decide +kernel) (by decide +kernel)

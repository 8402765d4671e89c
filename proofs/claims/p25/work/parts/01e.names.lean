theorem dL_ring_7 : decode cL_ring 7 = .ok (.aload_n 0, 1) := by decide +kernel
theorem dL_ring_8 : decode cL_ring 8 = .ok (.iload_n 1, 1) := by decide +kernel
theorem dL_ring_9 : decode cL_ring 9 = .ok (.invokevirtual 37, 3) := by decide +kernel
theorem dL_ring_12 : decode cL_ring 12 = .ok (.bipush (-9), 2) := by decide +kernel
theorem dL_ring_14 : decode cL_ring 14 = .ok (.if_icmp .eq 9, 3) := by decide +kernel
theorem dL_ring_17 : decode cL_ring 17 = .ok (.iinc 1 1, 3) := by decide +kernel
theorem dL_ring_20 : decode cL_ring 20 = .ok (.goto (-18), 3) := by decide +kernel
theorem dL_ring_23 : decode cL_ring 23 = .ok (.iload_n 1, 1) := by decide +kernel
theorem dL_ring_24 : decode cL_ring 24 = .ok (.ifCond .ne 5, 3) := by decide +kernel
theorem dL_ring_27 : decode cL_ring 27 = .ok (.iconst 1, 1) := by decide +kernel
theorem dL_ring_28 : decode cL_ring 28 = .ok (.ireturn, 1) := by decide +kernel
theorem dL_ring_29 : decode cL_ring 29 = .ok (.iload_n 1, 1) := by decide +kernel
theorem dL_ring_30 : decode cL_ring 30 = .ok (.iconst 1, 1) := by decide +kernel
theorem dL_ring_31 : decode cL_ring 31 = .ok (.if_icmp .le 25, 3) := by decide +kernel
theorem dL_ring_34 : decode cL_ring 34 = .ok (.iload_n 1, 1) := by decide +kernel
theorem dL_ring_35 : decode cL_ring 35 = .ok (.aload_n 0, 1) := by decide +kernel
theorem dL_ring_36 : decode cL_ring 36 = .ok (.iconst 0, 1) := by decide +kernel
theorem dL_ring_37 : decode cL_ring 37 = .ok (.invokevirtual 18, 3) := by decide +kernel
theorem dL_ring_40 : decode cL_ring 40 = .ok (.if_icmp .gt 16, 3) := by decide +kernel
theorem dL_ring_43 : decode cL_ring 43 = .ok (.aload_n 0, 1) := by decide +kernel
theorem dL_ring_44 : decode cL_ring 44 = .ok (.iconst 2, 1) := by decide +kernel
theorem dL_ring_45 : decode cL_ring 45 = .ok (.invokevirtual 18, 3) := by decide +kernel
theorem dL_ring_48 : decode cL_ring 48 = .ok (.iload_n 1, 1) := by decide +kernel
theorem dL_ring_49 : decode cL_ring 49 = .ok (.if_icmp .lt 7, 3) := by decide +kernel
theorem dL_ring_52 : decode cL_ring 52 = .ok (.iconst 1, 1) := by decide +kernel
theorem dL_ring_53 : decode cL_ring 53 = .ok (.goto 4, 3) := by decide +kernel
theorem dL_ring_56 : decode cL_ring 56 = .ok (.iconst 0, 1) := by decide +kernel
theorem dL_ring_57 : decode cL_ring 57 = .ok (.istore_n 2, 1) := by decide +kernel
theorem dL_ring_58 : decode cL_ring 58 = .ok (.iconst 0, 1) := by decide +kernel
theorem dL_ring_59 : decode cL_ring 59 = .ok (.istore_n 3, 1) := by decide +kernel
theorem dL_ring_60 : decode cL_ring 60 = .ok (.iload_n 3, 1) := by decide +kernel
theorem dL_ring_61 : decode cL_ring 61 = .ok (.iload_n 1, 1) := by decide +kernel
theorem dL_ring_62 : decode cL_ring 62 = .ok (.if_icmp .ge 74, 3) := by decide +kernel
theorem dL_ring_65 : decode cL_ring 65 = .ok (.iload_n 2, 1) := by decide +kernel
theorem dL_ring_66 : decode cL_ring 66 = .ok (.ifCond .eq 70, 3) := by decide +kernel
theorem dL_ring_69 : decode cL_ring 69 = .ok (.aload_n 0, 1) := by decide +kernel
theorem dL_ring_70 : decode cL_ring 70 = .ok (.iload_n 3, 1) := by decide +kernel
theorem dL_ring_71 : decode cL_ring 71 = .ok (.iconst 1, 1) := by decide +kernel
theorem dL_ring_72 : decode cL_ring 72 = .ok (.iadd, 1) := by decide +kernel
theorem dL_ring_73 : decode cL_ring 73 = .ok (.iload_n 1, 1) := by decide +kernel
theorem dL_ring_74 : decode cL_ring 74 = .ok (.irem, 1) := by decide +kernel
theorem dL_ring_75 : decode cL_ring 75 = .ok (.invokevirtual 37, 3) := by decide +kernel
theorem dL_ring_78 : decode cL_ring 78 = .ok (.istore 4, 2) := by decide +kernel
theorem dL_ring_80 : decode cL_ring 80 = .ok (.aload_n 0, 1) := by decide +kernel
theorem dL_ring_81 : decode cL_ring 81 = .ok (.iload_n 3, 1) := by decide +kernel
theorem dL_ring_82 : decode cL_ring 82 = .ok (.invokevirtual 37, 3) := by decide +kernel
theorem dL_ring_85 : decode cL_ring 85 = .ok (.aload_n 0, 1) := by decide +kernel
theorem dL_ring_86 : decode cL_ring 86 = .ok (.iconst 0, 1) := by decide +kernel
theorem dL_ring_87 : decode cL_ring 87 = .ok (.invokevirtual 37, 3) := by decide +kernel
theorem dL_ring_90 : decode cL_ring 90 = .ok (.if_icmp .lt 38, 3) := by decide +kernel
theorem dL_ring_93 : decode cL_ring 93 = .ok (.aload_n 0, 1) := by decide +kernel
theorem dL_ring_94 : decode cL_ring 94 = .ok (.aload_n 0, 1) := by decide +kernel
theorem dL_ring_95 : decode cL_ring 95 = .ok (.iload_n 3, 1) := by decide +kernel
theorem dL_ring_96 : decode cL_ring 96 = .ok (.invokevirtual 37, 3) := by decide +kernel
theorem dL_ring_99 : decode cL_ring 99 = .ok (.iload 4, 2) := by decide +kernel
theorem dL_ring_101 : decode cL_ring 101 = .ok (.invokevirtual 30, 3) := by decide +kernel
theorem dL_ring_104 : decode cL_ring 104 = .ok (.ifCond .le 24, 3) := by decide +kernel
theorem dL_ring_107 : decode cL_ring 107 = .ok (.iload_n 3, 1) := by decide +kernel
theorem dL_ring_108 : decode cL_ring 108 = .ok (.ifCond .eq 16, 3) := by decide +kernel
theorem dL_ring_111 : decode cL_ring 111 = .ok (.aload_n 0, 1) := by decide +kernel
theorem dL_ring_112 : decode cL_ring 112 = .ok (.iload_n 3, 1) := by decide +kernel
theorem dL_ring_113 : decode cL_ring 113 = .ok (.invokevirtual 37, 3) := by decide +kernel
theorem dL_ring_116 : decode cL_ring 116 = .ok (.aload_n 0, 1) := by decide +kernel
theorem dL_ring_117 : decode cL_ring 117 = .ok (.iconst 0, 1) := by decide +kernel
theorem dL_ring_118 : decode cL_ring 118 = .ok (.invokevirtual 37, 3) := by decide +kernel
theorem dL_ring_121 : decode cL_ring 121 = .ok (.if_icmp .eq 7, 3) := by decide +kernel
theorem dL_ring_124 : decode cL_ring 124 = .ok (.iconst 1, 1) := by decide +kernel
theorem dL_ring_125 : decode cL_ring 125 = .ok (.goto 4, 3) := by decide +kernel
theorem dL_ring_128 : decode cL_ring 128 = .ok (.iconst 0, 1) := by decide +kernel
theorem dL_ring_129 : decode cL_ring 129 = .ok (.istore_n 2, 1) := by decide +kernel
theorem dL_ring_130 : decode cL_ring 130 = .ok (.iinc 3 1, 3) := by decide +kernel
theorem dL_ring_133 : decode cL_ring 133 = .ok (.goto (-73), 3) := by decide +kernel
theorem dL_ring_136 : decode cL_ring 136 = .ok (.iload_n 2, 1) := by decide +kernel
theorem dL_ring_137 : decode cL_ring 137 = .ok (.ireturn, 1) := by decide +kernel
set_option maxRecDepth 20000 in
theorem ggL_told_X6_count : GoodIn wsL_told wsX6_count := goodIn_r _ [6, 7, 8, 9, 10, 11, 12, 13, 14, 15, 16, 17, 18, 19, 20, 21, 22, 23, 24, 25, 26, 27, 28, 29, 30, 31, 32, 33, 34, 35, 36, 37, 38, 39, 40, 41, 42, 43, 44, 45, 46, 47, 48, 49, 50, 51, 52, 53, 54, 55, 70, 71, 72, 73, 74, 75, 76, 77, 78, 79, 80, 81, 82, 83, 84, 85] (by decide +kernel) (by decide +kernel)
set_option maxRecDepth 20000 in
theorem gL_told_X6_count : GoodIn wsL_told (wsV RL 18 RX6 yX6_count wsX6_count) := goodIn_app (goodIn_of _ (by decide +kernel)) ggL_told_X6_count
set_option maxRecDepth 20000 in
theorem ggL_told_X6_crumb : GoodIn wsL_told wsX6_crumb := goodIn_r _ [59, 7, 60, 70, 71, 72, 73, 74, 75, 76, 77, 78, 79, 80] (by decide +kernel) (by decide +kernel)
set_option maxRecDepth 20000 in
theorem gL_told_X6_crumb : GoodIn wsL_told (wsV RL 8 RX6 yX6_crumb wsX6_crumb) := goodIn_app (goodIn_of _ (by decide +kernel)) ggL_told_X6_crumb
set_option maxRecDepth 20000 in
theorem ggL_told_X6_value : GoodIn wsL_told wsX6_value := goodIn_r _ [64, 7, 65, 66, 67, 68, 15, 69, 22, 70, 71, 72, 73, 74, 75, 76, 77, 78, 79, 80] (by decide +kernel) (by decide +kernel)
set_option maxRecDepth 20000 in
theorem gL_told_X6_value : GoodIn wsL_told (wsV RL 14 RX6 yX6_value wsX6_value) := goodIn_app (goodIn_of _ (by decide +kernel)) ggL_told_X6_value
theorem dL_told_0 : decode cL_told 0 = .ok (.aload_n 0, 1) := by decide +kernel
theorem dL_told_1 : decode cL_told 1 = .ok (.iconst 0, 1) := by decide +kernel
theorem dL_told_2 : decode cL_told 2 = .ok (.invokevirtual 18, 3) := by decide +kernel
theorem dL_told_5 : decode cL_told 5 = .ok (.i2l, 1) := by decide +kernel
theorem dL_told_6 : decode cL_told 6 = .ok (.lstore_n 1, 1) := by decide +kernel
theorem dL_told_7 : decode cL_told 7 = .ok (.iconst 0, 1) := by decide +kernel
theorem dL_told_8 : decode cL_told 8 = .ok (.istore_n 3, 1) := by decide +kernel
theorem dL_told_9 : decode cL_told 9 = .ok (.iload_n 3, 1) := by decide +kernel
theorem dL_told_10 : decode cL_told 10 = .ok (.bipush 24, 2) := by decide +kernel
theorem dL_told_12 : decode cL_told 12 = .ok (.if_icmp .ge 56, 3) := by decide +kernel
theorem dL_told_15 : decode cL_told 15 = .ok (.ldc2_w 39, 3) := by decide +kernel
theorem dL_told_18 : decode cL_told 18 = .ok (.lload_n 1, 1) := by decide +kernel
theorem dL_told_19 : decode cL_told 19 = .ok (.lmul, 1) := by decide +kernel
theorem dL_told_20 : decode cL_told 20 = .ok (.aload_n 0, 1) := by decide +kernel
theorem dL_told_21 : decode cL_told 21 = .ok (.iload_n 3, 1) := by decide +kernel
theorem dL_told_22 : decode cL_told 22 = .ok (.invokevirtual 8, 3) := by decide +kernel
theorem dL_told_25 : decode cL_told 25 = .ok (.i2l, 1) := by decide +kernel
theorem dL_told_26 : decode cL_told 26 = .ok (.ladd, 1) := by decide +kernel
theorem dL_told_27 : decode cL_told 27 = .ok (.lstore_n 1, 1) := by decide +kernel
theorem dL_told_28 : decode cL_told 28 = .ok (.iconst 0, 1) := by decide +kernel
theorem dL_told_29 : decode cL_told 29 = .ok (.istore 4, 2) := by decide +kernel
theorem dL_told_31 : decode cL_told 31 = .ok (.iload 4, 2) := by decide +kernel
theorem dL_told_33 : decode cL_told 33 = .ok (.aload_n 0, 1) := by decide +kernel
theorem dL_told_34 : decode cL_told 34 = .ok (.iconst 0, 1) := by decide +kernel
theorem dL_told_35 : decode cL_told 35 = .ok (.invokevirtual 18, 3) := by decide +kernel
theorem dL_told_38 : decode cL_told 38 = .ok (.if_icmp .ge 24, 3) := by decide +kernel
theorem dL_told_41 : decode cL_told 41 = .ok (.ldc2_w 39, 3) := by decide +kernel
theorem dL_told_44 : decode cL_told 44 = .ok (.lload_n 1, 1) := by decide +kernel
theorem dL_told_45 : decode cL_told 45 = .ok (.lmul, 1) := by decide +kernel
theorem dL_told_46 : decode cL_told 46 = .ok (.aload_n 0, 1) := by decide +kernel
theorem dL_told_47 : decode cL_told 47 = .ok (.iload 4, 2) := by decide +kernel
theorem dL_told_49 : decode cL_told 49 = .ok (.iload_n 3, 1) := by decide +kernel
theorem dL_told_50 : decode cL_told 50 = .ok (.invokevirtual 14, 3) := by decide +kernel
theorem dL_told_53 : decode cL_told 53 = .ok (.i2l, 1) := by decide +kernel
theorem dL_told_54 : decode cL_told 54 = .ok (.ladd, 1) := by decide +kernel
theorem dL_told_55 : decode cL_told 55 = .ok (.lstore_n 1, 1) := by decide +kernel
theorem dL_told_56 : decode cL_told 56 = .ok (.iinc 4 1, 3) := by decide +kernel
theorem dL_told_59 : decode cL_told 59 = .ok (.goto (-28), 3) := by decide +kernel
theorem dL_told_62 : decode cL_told 62 = .ok (.iinc 3 1, 3) := by decide +kernel
theorem dL_told_65 : decode cL_told 65 = .ok (.goto (-56), 3) := by decide +kernel
theorem dL_told_68 : decode cL_told 68 = .ok (.lload_n 1, 1) := by decide +kernel
theorem dL_told_69 : decode cL_told 69 = .ok (.lreturn, 1) := by decide +kernel
set_option maxRecDepth 20000 in
theorem ggL_acts_X6_count : GoodIn wsL_acts wsX6_count := goodIn_r _ [5, 6, 7, 8, 9, 10, 11, 12, 13, 14, 15, 16, 17, 18, 19, 20, 21, 22, 23, 24, 25, 26, 27, 28, 29, 30, 31, 32, 33, 34, 35, 36, 37, 38, 39, 40, 41, 42, 43, 44, 45, 46, 47, 48, 49, 50, 51, 52, 53, 54, 365, 366, 367, 368, 369, 370, 371, 372, 373, 374, 375, 376, 377, 378, 379, 380] (by decide +kernel) (by decide +kernel)
set_option maxRecDepth 20000 in
theorem gL_acts_X6_count : GoodIn wsL_acts (wsV RL 18 RX6 yX6_count wsX6_count) := goodIn_app (goodIn_of _ (by decide +kernel)) ggL_acts_X6_count
set_option maxRecDepth 20000 in
theorem ggL_acts_L_low : GoodIn wsL_acts wsL_low := goodIn_r _ [58, 59] (by decide +kernel) (by decide +kernel)
set_option maxRecDepth 20000 in
theorem gL_acts_L_low : GoodIn wsL_acts (va_wsS RL 41 yL_low wsL_low) := goodIn_app (goodIn_of _ (by decide +kernel)) ggL_acts_L_low
set_option maxRecDepth 20000 in
theorem ggL_acts_X6_setValue : GoodIn wsL_acts wsX6_setValue := goodIn_r _ [63, 6, 64, 65, 66, 14, 67, 21, 68, 69, 4, 70, 71, 72, 73, 74, 8, 75, 76, 77, 78, 79, 80, 81, 82, 83, 84, 16, 38, 85, 86, 87, 88, 89, 90, 91, 92, 93, 94, 95, 96, 97, 98, 99, 100, 101, 48, 49, 50, 51, 52, 53, 54, 365, 366, 367, 368, 369, 370, 371, 372, 373, 374, 375] (by decide +kernel) (by decide +kernel)
set_option maxRecDepth 20000 in
theorem gL_acts_X6_setValue : GoodIn wsL_acts (wsV RL 44 RX6 yX6_setValue wsX6_setValue) := goodIn_app (goodIn_of _ (by decide +kernel)) ggL_acts_X6_setValue
set_option maxRecDepth 20000 in
theorem ggL_acts_X6_guest : GoodIn wsL_acts wsX6_guest := goodIn_r _ [105, 6, 64, 65, 66, 14, 67, 21, 101, 48, 49, 50, 51, 52, 53, 54, 38, 106, 31, 32, 33, 34, 35, 36, 37, 16, 11, 12, 13, 15, 107, 108, 4, 109, 110, 111, 112, 113, 114, 115, 116, 117, 118, 119, 120, 365, 366, 367, 368, 369, 370, 371, 372, 373, 374, 375] (by decide +kernel) (by decide +kernel)
set_option maxRecDepth 20000 in
theorem gL_acts_X6_guest : GoodIn wsL_acts (wsV RL 27 RX6 yX6_guest wsX6_guest) := goodIn_app (goodIn_of _ (by decide +kernel)) ggL_acts_X6_guest
set_option maxRecDepth 20000 in
theorem ggL_acts_X6_value : GoodIn wsL_acts wsX6_value := goodIn_r _ [124, 6, 125, 64, 65, 66, 14, 67, 21, 365, 366, 367, 368, 369, 370, 371, 372, 373, 374, 375] (by decide +kernel) (by decide +kernel)
set_option maxRecDepth 20000 in
theorem gL_acts_X6_value : GoodIn wsL_acts (wsV RL 14 RX6 yX6_value wsX6_value) := goodIn_app (goodIn_of _ (by decide +kernel)) ggL_acts_X6_value
set_option maxRecDepth 20000 in
theorem ggL_acts_X6_give : GoodIn wsL_acts wsX6_give := goodIn_r _ [129, 6, 64, 65, 66, 14, 67, 21, 68, 69, 4, 70, 71, 72, 73, 74, 8, 75, 76, 77, 78, 79, 80, 81, 82, 83, 84, 16, 38, 85, 86, 87, 88, 89, 90, 91, 92, 93, 94, 95, 96, 130, 131, 132, 133, 365, 366, 367, 368, 369, 370, 371, 372, 373, 374, 375] (by decide +kernel) (by decide +kernel)
set_option maxRecDepth 20000 in
theorem gL_acts_X6_give : GoodIn wsL_acts (wsV RL 48 RX6 yX6_give wsX6_give) := goodIn_app (goodIn_of _ (by decide +kernel)) ggL_acts_X6_give
set_option maxRecDepth 20000 in
theorem ggL_acts_X6_putBack : GoodIn wsL_acts wsX6_putBack := goodIn_r _ [137, 6, 68, 69, 4, 70, 71, 72, 73, 74, 8, 75, 76, 77, 78, 79, 80, 81, 82, 83, 14, 84, 21, 16, 38, 85, 86, 87, 88, 89, 90, 91, 92, 93, 94, 95, 96, 138, 139, 140, 141, 365, 366, 367, 368, 369, 370, 371, 372, 373, 374, 375] (by decide +kernel) (by decide +kernel)
set_option maxRecDepth 20000 in
theorem gL_acts_X6_putBack : GoodIn wsL_acts (wsV RL 52 RX6 yX6_putBack wsX6_putBack) := goodIn_app (goodIn_of _ (by decide +kernel)) ggL_acts_X6_putBack
set_option maxRecDepth 20000 in
theorem ggL_acts_X6_crumb : GoodIn wsL_acts wsX6_crumb := goodIn_r _ [145, 6, 146, 365, 366, 367, 368, 369, 370, 371, 372, 373, 374, 375] (by decide +kernel) (by decide +kernel)
set_option maxRecDepth 20000 in
theorem gL_acts_X6_crumb : GoodIn wsL_acts (wsV RL 8 RX6 yX6_crumb wsX6_crumb) := goodIn_app (goodIn_of _ (by decide +kernel)) ggL_acts_X6_crumb
set_option maxRecDepth 20000 in
theorem ggL_acts_X6_calls : GoodIn wsL_acts wsX6_calls := goodIn_r _ [150, 151, 6, 152, 153, 154, 4, 155, 7, 156, 157, 158, 159, 160, 161, 162, 163, 90, 91, 92, 164, 165, 166, 167, 168, 35, 36, 14, 37, 16, 38, 169, 48, 49, 50, 51, 52, 53, 54, 170, 171, 172, 173, 365, 366, 367, 368, 369, 370, 371, 372, 373, 374, 375, 381] (by decide +kernel) (by decide +kernel)
set_option maxRecDepth 20000 in
theorem gL_acts_X6_calls : GoodIn wsL_acts (wsV RL 55 RX6 yX6_calls wsX6_calls) := goodIn_app (goodIn_of _ (by decide +kernel)) ggL_acts_X6_calls
set_option maxRecDepth 20000 in
theorem ggL_acts_X6_move : GoodIn wsL_acts wsX6_move := goodIn_r _ [177, 151, 6, 178, 152, 153, 154, 4, 155, 7, 71, 72, 73, 74, 8, 75, 76, 77, 78, 79, 80, 81, 82, 83, 14, 84, 21, 16, 38, 85, 86, 87, 88, 89, 90, 91, 92, 93, 94, 95, 96, 156, 157, 158, 159, 160, 161, 162, 163, 164, 165, 166, 167, 168, 35, 36, 37, 169, 48, 49, 50, 51, 52, 53, 54, 170, 171, 172, 173, 179, 365, 366, 367, 368, 369, 370, 371, 372, 381, 373, 374, 375] (by decide +kernel) (by decide +kernel)
set_option maxRecDepth 20000 in
theorem gL_acts_X6_move : GoodIn wsL_acts (wsV RL 58 RX6 yX6_move wsX6_move) := goodIn_app (goodIn_of _ (by decide +kernel)) ggL_acts_X6_move
set_option maxRecDepth 20000 in
theorem ggL_acts_X6_cut : GoodIn wsL_acts wsX6_cut := goodIn_r _ [183, 6, 184, 185, 186, 4, 187, 64, 65, 66, 14, 67, 21, 68, 69, 70, 188, 189, 190, 191, 16, 71, 72, 73, 74, 8, 75, 76, 77, 78, 79, 80, 81, 82, 83, 84, 38, 85, 86, 87, 88, 89, 90, 91, 92, 93, 94, 95, 96, 192, 193, 194, 195, 196, 197, 28, 198, 51, 52, 53, 54, 199, 130, 131, 132, 133, 365, 366, 367, 368, 369, 370, 371, 372, 373, 374, 375] (by decide +kernel) (by decide +kernel)
set_option maxRecDepth 20000 in
theorem gL_acts_X6_cut : GoodIn wsL_acts (wsV RL 61 RX6 yX6_cut wsX6_cut) := goodIn_app (goodIn_of _ (by decide +kernel)) ggL_acts_X6_cut
set_option maxRecDepth 20000 in
theorem ggL_acts_X6_trim : GoodIn wsL_acts wsX6_trim := goodIn_r _ [203, 6, 184, 185, 186, 4, 187, 64, 65, 66, 14, 67, 21, 71, 72, 73, 74, 8, 75, 76, 77, 78, 79, 80, 81, 82, 83, 84, 16, 38, 85, 86, 87, 88, 89, 90, 91, 92, 93, 94, 95, 96, 204, 205, 206, 207, 30, 31, 32, 33, 34, 35, 36, 37, 365, 366, 367, 368, 369, 370, 371, 372, 373, 374, 375] (by decide +kernel) (by decide +kernel)
set_option maxRecDepth 20000 in
theorem gL_acts_X6_trim : GoodIn wsL_acts (wsV RL 64 RX6 yX6_trim wsX6_trim) := goodIn_app (goodIn_of _ (by decide +kernel)) ggL_acts_X6_trim
set_option maxRecDepth 20000 in
theorem ggL_acts_X6_envy : GoodIn wsL_acts wsX6_envy := goodIn_r _ [211, 6, 184, 185, 186, 4, 187, 64, 65, 66, 14, 67, 21, 212, 23, 24, 25, 26, 27, 28, 29, 30, 31, 32, 33, 34, 35, 36, 37, 16, 38, 365, 366, 367, 368, 369, 370, 371, 372, 373, 374, 375] (by decide +kernel) (by decide +kernel)
set_option maxRecDepth 20000 in
theorem gL_acts_X6_envy : GoodIn wsL_acts (wsV RL 30 RX6 yX6_envy wsX6_envy) := goodIn_app (goodIn_of _ (by decide +kernel)) ggL_acts_X6_envy
set_option maxRecDepth 20000 in
theorem ggL_acts_X6_ring : GoodIn wsL_acts wsX6_ring := goodIn_r _ [216, 217, 6, 218, 219, 220, 221, 222, 223, 224, 225, 226, 227, 228, 229, 230, 231, 232, 233, 23, 24, 14, 25, 26, 27, 28, 29, 30, 31, 32, 33, 34, 35, 36, 37, 16, 38, 234, 235, 236, 237, 238, 239, 240, 241, 242, 243, 244, 245, 246, 247, 248, 249, 250, 251, 252, 253, 254, 255, 256, 257, 258, 259, 260, 261, 262, 365, 366, 367, 368, 369, 370, 371, 372, 382, 383, 384, 385, 386, 373, 374, 375] (by decide +kernel) (by decide +kernel)
set_option maxRecDepth 20000 in
theorem gL_acts_X6_ring : GoodIn wsL_acts (wsV RL 37 RX6 yX6_ring wsX6_ring) := goodIn_app (goodIn_of _ (by decide +kernel)) ggL_acts_X6_ring
set_option maxRecDepth 20000 in
theorem ggL_acts_X6_exchange : GoodIn wsL_acts wsX6_exchange := goodIn_r _ [266, 217, 6, 218, 220, 221, 222, 223, 224, 225, 226, 227, 228, 229, 230, 231, 232, 233, 23, 24, 14, 25, 26, 27, 28, 29, 30, 31, 32, 33, 34, 35, 36, 37, 16, 38, 234, 235, 236, 237, 238, 239, 240, 241, 242, 243, 244, 245, 246, 247, 248, 249, 250, 251, 252, 253, 254, 255, 256, 257, 258, 259, 260, 261, 262, 71, 72, 73, 4, 74, 8, 75, 76, 77, 78, 79, 80, 81, 82, 83, 84, 21, 85, 86, 87, 88, 89, 90, 91, 92, 93, 94, 95, 96, 267, 268, 269, 270, 271, 272, 273, 274, 275, 276, 365, 366, 367, 368, 369, 370, 371, 372, 382, 383, 373, 374, 375, 384, 385, 386] (by decide +kernel) (by decide +kernel)
set_option maxRecDepth 20000 in
theorem gL_acts_X6_exchange : GoodIn wsL_acts (wsV RL 67 RX6 yX6_exchange wsX6_exchange) := goodIn_app (goodIn_of _ (by decide +kernel)) ggL_acts_X6_exchange
set_option maxRecDepth 20000 in
theorem ggL_acts_X6_addGuest : GoodIn wsL_acts wsX6_addGuest := goodIn_r _ [280, 6, 7, 71, 72, 73, 4, 74, 8, 75, 76, 77, 78, 79, 80, 81, 82, 83, 14, 84, 21, 16, 38, 85, 86, 87, 88, 89, 90, 91, 92, 93, 94, 95, 96, 281, 282, 283, 284, 285, 98, 99, 100, 365, 366, 367, 368, 369, 370, 371, 372, 373, 374, 375] (by decide +kernel) (by decide +kernel)
set_option maxRecDepth 20000 in
theorem gL_acts_X6_addGuest : GoodIn wsL_acts (wsV RL 71 RX6 yX6_addGuest wsX6_addGuest) := goodIn_app (goodIn_of _ (by decide +kernel)) ggL_acts_X6_addGuest
set_option maxRecDepth 20000 in
theorem ggL_acts_X6_middle : GoodIn wsL_acts wsX6_middle := goodIn_r _ [289, 6, 64, 65, 66, 14, 67, 21, 192, 193, 194, 195, 38, 196, 197, 28, 198, 51, 52, 53, 54, 365, 366, 367, 368, 369, 370, 371, 372, 373, 374, 375] (by decide +kernel) (by decide +kernel)
set_option maxRecDepth 20000 in
theorem gL_acts_X6_middle : GoodIn wsL_acts (wsV RL 74 RX6 yX6_middle wsX6_middle) := goodIn_app (goodIn_of _ (by decide +kernel)) ggL_acts_X6_middle
set_option maxRecDepth 20000 in
theorem ggL_acts_X6_best : GoodIn wsL_acts wsX6_best := goodIn_r _ [293, 6, 7, 294, 295, 296, 297, 298, 299, 300, 301, 4, 302, 76, 303, 304, 305, 306, 307, 308, 309, 310, 311, 312, 313, 314, 315, 316, 317, 318, 319, 320, 321, 27, 28, 29, 322, 323, 324, 325, 326, 327, 328, 329, 330, 331, 332, 333, 334, 235, 236, 237, 238, 239, 240, 241, 242, 243, 244, 245, 246, 247, 248, 249, 250, 251, 252, 335, 336, 337, 338, 339, 340, 341, 342, 343, 344, 345, 346, 260, 261, 262, 347, 348, 349, 350, 351, 352, 353, 354, 355, 356, 357, 358, 359, 360, 361, 362, 363, 364, 107, 108, 109, 110, 111, 112, 113, 114, 115, 116, 365, 366, 367, 368, 369, 370, 371, 372, 373, 374, 375, 387, 388, 389, 390, 391, 392, 393, 394, 395, 396, 397, 398, 399, 400, 384, 385, 386] (by decide +kernel) (by decide +kernel)
set_option maxRecDepth 20000 in
theorem gL_acts_X6_best : GoodIn wsL_acts (wsV RL 77 RX6 yX6_best wsX6_best) := goodIn_app (goodIn_of _ (by decide +kernel)) ggL_acts_X6_best
theorem dL_acts_0 : decode cL_acts 0 = .ok (.aload_n 0, 1) := by decide +kernel
theorem dL_acts_1 : decode cL_acts 1 = .ok (.iconst 0, 1) := by decide +kernel
theorem dL_acts_2 : decode cL_acts 2 = .ok (.invokevirtual 18, 3) := by decide +kernel
theorem dL_acts_5 : decode cL_acts 5 = .ok (.istore_n 3, 1) := by decide +kernel
theorem dL_acts_6 : decode cL_acts 6 = .ok (.iload_n 1, 1) := by decide +kernel
theorem dL_acts_7 : decode cL_acts 7 = .ok (.bipush 15, 2) := by decide +kernel
theorem dL_acts_9 : decode cL_acts 9 = .ok (.iand, 1) := by decide +kernel
theorem dL_acts_10 : decode cL_acts 10 = .ok (.istore 4, 2) := by decide +kernel
theorem dL_acts_12 : decode cL_acts 12 = .ok (.iload_n 1, 1) := by decide +kernel
theorem dL_acts_13 : decode cL_acts 13 = .ok (.iconst 4, 1) := by decide +kernel
theorem dL_acts_14 : decode cL_acts 14 = .ok (.ishr, 1) := by decide +kernel
theorem dL_acts_15 : decode cL_acts 15 = .ok (.iload_n 3, 1) := by decide +kernel
theorem dL_acts_16 : decode cL_acts 16 = .ok (.invokestatic 41, 3) := by decide +kernel
theorem dL_acts_19 : decode cL_acts 19 = .ok (.istore 5, 2) := by decide +kernel
theorem dL_acts_21 : decode cL_acts 21 = .ok (.iload_n 1, 1) := by decide +kernel
theorem dL_acts_22 : decode cL_acts 22 = .ok (.bipush 8, 2) := by decide +kernel
theorem dL_acts_24 : decode cL_acts 24 = .ok (.ishr, 1) := by decide +kernel
theorem dL_acts_25 : decode cL_acts 25 = .ok (.iload_n 3, 1) := by decide +kernel
theorem dL_acts_26 : decode cL_acts 26 = .ok (.invokestatic 41, 3) := by decide +kernel
theorem dL_acts_29 : decode cL_acts 29 = .ok (.istore 6, 2) := by decide +kernel
theorem dL_acts_31 : decode cL_acts 31 = .ok (.iload_n 2, 1) := by decide +kernel
theorem dL_acts_32 : decode cL_acts 32 = .ok (.bipush 24, 2) := by decide +kernel
theorem dL_acts_34 : decode cL_acts 34 = .ok (.invokestatic 41, 3) := by decide +kernel
theorem dL_acts_37 : decode cL_acts 37 = .ok (.istore 7, 2) := by decide +kernel
theorem dL_acts_39 : decode cL_acts 39 = .ok (.iload 7, 2) := by decide +kernel
theorem dL_acts_41 : decode cL_acts 41 = .ok (.iload_n 2, 1) := by decide +kernel
theorem dL_acts_42 : decode cL_acts 42 = .ok (.iconst 5, 1) := by decide +kernel
theorem dL_acts_43 : decode cL_acts 43 = .ok (.ishr, 1) := by decide +kernel
theorem dL_acts_44 : decode cL_acts 44 = .ok (.bipush 24, 2) := by decide +kernel
theorem dL_acts_46 : decode cL_acts 46 = .ok (.iload 7, 2) := by decide +kernel
theorem dL_acts_48 : decode cL_acts 48 = .ok (.isub, 1) := by decide +kernel
theorem dL_acts_49 : decode cL_acts 49 = .ok (.invokestatic 41, 3) := by decide +kernel
theorem dL_acts_52 : decode cL_acts 52 = .ok (.iadd, 1) := by decide +kernel
theorem dL_acts_53 : decode cL_acts 53 = .ok (.istore 8, 2) := by decide +kernel
theorem dL_acts_55 : decode cL_acts 55 = .ok (.iload 4, 2) := by decide +kernel
theorem dL_acts_57 : decode cL_acts 57 = .ok (.iconst 3, 1) := by decide +kernel
theorem dL_acts_58 : decode cL_acts 58 = .ok (.if_icmp .ge 68, 3) := by decide +kernel
theorem dL_acts_61 : decode cL_acts 61 = .ok (.iload_n 2, 1) := by decide +kernel
theorem dL_acts_62 : decode cL_acts 62 = .ok (.bipush 10, 2) := by decide +kernel
theorem dL_acts_64 : decode cL_acts 64 = .ok (.ishr, 1) := by decide +kernel
theorem dL_acts_65 : decode cL_acts 65 = .ok (.bipush 10, 2) := by decide +kernel
theorem dL_acts_67 : decode cL_acts 67 = .ok (.invokestatic 41, 3) := by decide +kernel
theorem dL_acts_70 : decode cL_acts 70 = .ok (.istore 9, 2) := by decide +kernel
theorem dL_acts_72 : decode cL_acts 72 = .ok (.aload_n 0, 1) := by decide +kernel
theorem dL_acts_73 : decode cL_acts 73 = .ok (.iload 5, 2) := by decide +kernel
theorem dL_acts_75 : decode cL_acts 75 = .ok (.iload 7, 2) := by decide +kernel
theorem dL_acts_77 : decode cL_acts 77 = .ok (.iload 8, 2) := by decide +kernel
theorem dL_acts_79 : decode cL_acts 79 = .ok (.iload 9, 2) := by decide +kernel
theorem dL_acts_81 : decode cL_acts 81 = .ok (.invokevirtual 44, 3) := by decide +kernel
theorem dL_acts_84 : decode cL_acts 84 = .ok (.aload_n 0, 1) := by decide +kernel
theorem dL_acts_85 : decode cL_acts 85 = .ok (.iload 5, 2) := by decide +kernel
theorem dL_acts_87 : decode cL_acts 87 = .ok (.iconst 0, 1) := by decide +kernel
theorem dL_acts_88 : decode cL_acts 88 = .ok (.invokevirtual 27, 3) := by decide +kernel
theorem dL_acts_91 : decode cL_acts 91 = .ok (.if_icmp .ne 33, 3) := by decide +kernel
theorem dL_acts_94 : decode cL_acts 94 = .ok (.aload_n 0, 1) := by decide +kernel
theorem dL_acts_95 : decode cL_acts 95 = .ok (.iload 5, 2) := by decide +kernel
theorem dL_acts_97 : decode cL_acts 97 = .ok (.iload 7, 2) := by decide +kernel
theorem dL_acts_99 : decode cL_acts 99 = .ok (.invokevirtual 14, 3) := by decide +kernel
theorem dL_acts_102 : decode cL_acts 102 = .ok (.iload 9, 2) := by decide +kernel
theorem dL_acts_104 : decode cL_acts 104 = .ok (.if_icmp .ne 20, 3) := by decide +kernel
theorem dL_acts_107 : decode cL_acts 107 = .ok (.aload_n 0, 1) := by decide +kernel
theorem dL_acts_108 : decode cL_acts 108 = .ok (.iload 5, 2) := by decide +kernel
theorem dL_acts_110 : decode cL_acts 110 = .ok (.iload 8, 2) := by decide +kernel
theorem dL_acts_112 : decode cL_acts 112 = .ok (.invokevirtual 14, 3) := by decide +kernel
theorem dL_acts_115 : decode cL_acts 115 = .ok (.iload 9, 2) := by decide +kernel
theorem dL_acts_117 : decode cL_acts 117 = .ok (.if_icmp .ne 7, 3) := by decide +kernel
theorem dL_acts_120 : decode cL_acts 120 = .ok (.iconst 1, 1) := by decide +kernel
theorem dL_acts_121 : decode cL_acts 121 = .ok (.goto 4, 3) := by decide +kernel
theorem dL_acts_124 : decode cL_acts 124 = .ok (.iconst 0, 1) := by decide +kernel
theorem dL_acts_125 : decode cL_acts 125 = .ok (.ireturn, 1) := by decide +kernel
theorem dL_acts_126 : decode cL_acts 126 = .ok (.iload 4, 2) := by decide +kernel
theorem dL_acts_128 : decode cL_acts 128 = .ok (.iconst 5, 1) := by decide +kernel
theorem dL_acts_129 : decode cL_acts 129 = .ok (.if_icmp .ge 77, 3) := by decide +kernel
theorem dL_acts_132 : decode cL_acts 132 = .ok (.aload_n 0, 1) := by decide +kernel
theorem dL_acts_133 : decode cL_acts 133 = .ok (.iconst 1, 1) := by decide +kernel
theorem dL_acts_134 : decode cL_acts 134 = .ok (.invokevirtual 18, 3) := by decide +kernel
theorem dL_acts_137 : decode cL_acts 137 = .ok (.istore 9, 2) := by decide +kernel
theorem dL_acts_139 : decode cL_acts 139 = .ok (.aload_n 0, 1) := by decide +kernel
theorem dL_acts_140 : decode cL_acts 140 = .ok (.iload 5, 2) := by decide +kernel
theorem dL_acts_142 : decode cL_acts 142 = .ok (.iconst 2, 1) := by decide +kernel
theorem dL_acts_143 : decode cL_acts 143 = .ok (.invokevirtual 27, 3) := by decide +kernel
theorem dL_acts_146 : decode cL_acts 146 = .ok (.istore 10, 2) := by decide +kernel
theorem dL_acts_148 : decode cL_acts 148 = .ok (.aload_n 0, 1) := by decide +kernel
theorem dL_acts_149 : decode cL_acts 149 = .ok (.iload 5, 2) := by decide +kernel
theorem dL_acts_151 : decode cL_acts 151 = .ok (.iload 7, 2) := by decide +kernel
theorem dL_acts_153 : decode cL_acts 153 = .ok (.iload 8, 2) := by decide +kernel
theorem dL_acts_155 : decode cL_acts 155 = .ok (.invokevirtual 48, 3) := by decide +kernel
theorem dL_acts_158 : decode cL_acts 158 = .ok (.istore 11, 2) := by decide +kernel
theorem dL_acts_160 : decode cL_acts 160 = .ok (.aload_n 0, 1) := by decide +kernel
theorem dL_acts_161 : decode cL_acts 161 = .ok (.iconst 1, 1) := by decide +kernel
theorem dL_acts_162 : decode cL_acts 162 = .ok (.invokevirtual 18, 3) := by decide +kernel
theorem dL_acts_165 : decode cL_acts 165 = .ok (.iload 9, 2) := by decide +kernel
theorem dL_acts_167 : decode cL_acts 167 = .ok (.iload 11, 2) := by decide +kernel
theorem dL_acts_169 : decode cL_acts 169 = .ok (.isub, 1) := by decide +kernel
theorem dL_acts_170 : decode cL_acts 170 = .ok (.if_icmp .ne 34, 3) := by decide +kernel
theorem dL_acts_173 : decode cL_acts 173 = .ok (.aload_n 0, 1) := by decide +kernel
theorem dL_acts_174 : decode cL_acts 174 = .ok (.iload 5, 2) := by decide +kernel
theorem dL_acts_176 : decode cL_acts 176 = .ok (.iconst 2, 1) := by decide +kernel
theorem dL_acts_177 : decode cL_acts 177 = .ok (.invokevirtual 27, 3) := by decide +kernel
theorem dL_acts_180 : decode cL_acts 180 = .ok (.iload 10, 2) := by decide +kernel
theorem dL_acts_182 : decode cL_acts 182 = .ok (.iload 11, 2) := by decide +kernel
theorem dL_acts_184 : decode cL_acts 184 = .ok (.iadd, 1) := by decide +kernel
theorem dL_acts_185 : decode cL_acts 185 = .ok (.if_icmp .ne 19, 3) := by decide +kernel
theorem dL_acts_188 : decode cL_acts 188 = .ok (.iload 11, 2) := by decide +kernel
theorem dL_acts_190 : decode cL_acts 190 = .ok (.iload 8, 2) := by decide +kernel
theorem dL_acts_192 : decode cL_acts 192 = .ok (.iload 7, 2) := by decide +kernel
theorem dL_acts_194 : decode cL_acts 194 = .ok (.isub, 1) := by decide +kernel
theorem dL_acts_195 : decode cL_acts 195 = .ok (.iconst 1, 1) := by decide +kernel
theorem dL_acts_196 : decode cL_acts 196 = .ok (.iadd, 1) := by decide +kernel
theorem dL_acts_197 : decode cL_acts 197 = .ok (.if_icmp .gt 7, 3) := by decide +kernel
theorem dL_acts_200 : decode cL_acts 200 = .ok (.iconst 1, 1) := by decide +kernel
theorem dL_acts_201 : decode cL_acts 201 = .ok (.goto 4, 3) := by decide +kernel
theorem dL_acts_204 : decode cL_acts 204 = .ok (.iconst 0, 1) := by decide +kernel
theorem dL_acts_205 : decode cL_acts 205 = .ok (.ireturn, 1) := by decide +kernel
theorem dL_acts_206 : decode cL_acts 206 = .ok (.iload 4, 2) := by decide +kernel
theorem dL_acts_208 : decode cL_acts 208 = .ok (.bipush 7, 2) := by decide +kernel
theorem dL_acts_210 : decode cL_acts 210 = .ok (.if_icmp .ge 61, 3) := by decide +kernel
theorem dL_acts_213 : decode cL_acts 213 = .ok (.aload_n 0, 1) := by decide +kernel
theorem dL_acts_214 : decode cL_acts 214 = .ok (.iconst 1, 1) := by decide +kernel
theorem dL_acts_215 : decode cL_acts 215 = .ok (.invokevirtual 18, 3) := by decide +kernel
theorem dL_acts_218 : decode cL_acts 218 = .ok (.istore 9, 2) := by decide +kernel
theorem dL_acts_220 : decode cL_acts 220 = .ok (.aload_n 0, 1) := by decide +kernel
theorem dL_acts_221 : decode cL_acts 221 = .ok (.iload 7, 2) := by decide +kernel
theorem dL_acts_223 : decode cL_acts 223 = .ok (.iload 8, 2) := by decide +kernel
theorem dL_acts_225 : decode cL_acts 225 = .ok (.invokevirtual 52, 3) := by decide +kernel
theorem dL_acts_228 : decode cL_acts 228 = .ok (.istore 10, 2) := by decide +kernel
theorem dL_acts_230 : decode cL_acts 230 = .ok (.aload_n 0, 1) := by decide +kernel
theorem dL_acts_231 : decode cL_acts 231 = .ok (.iconst 1, 1) := by decide +kernel
theorem dL_acts_232 : decode cL_acts 232 = .ok (.invokevirtual 18, 3) := by decide +kernel
theorem dL_acts_235 : decode cL_acts 235 = .ok (.iload 9, 2) := by decide +kernel
theorem dL_acts_237 : decode cL_acts 237 = .ok (.iload 10, 2) := by decide +kernel
theorem dL_acts_239 : decode cL_acts 239 = .ok (.iadd, 1) := by decide +kernel
theorem dL_acts_240 : decode cL_acts 240 = .ok (.if_icmp .ne 29, 3) := by decide +kernel
theorem dL_acts_243 : decode cL_acts 243 = .ok (.aload_n 0, 1) := by decide +kernel
theorem dL_acts_244 : decode cL_acts 244 = .ok (.iload 7, 2) := by decide +kernel
theorem dL_acts_246 : decode cL_acts 246 = .ok (.invokevirtual 8, 3) := by decide +kernel
theorem dL_acts_249 : decode cL_acts 249 = .ok (.bipush (-9), 2) := by decide +kernel
theorem dL_acts_251 : decode cL_acts 251 = .ok (.if_icmp .ne 18, 3) := by decide +kernel
theorem dL_acts_254 : decode cL_acts 254 = .ok (.aload_n 0, 1) := by decide +kernel
theorem dL_acts_255 : decode cL_acts 255 = .ok (.iload 8, 2) := by decide +kernel
theorem dL_acts_257 : decode cL_acts 257 = .ok (.invokevirtual 8, 3) := by decide +kernel
theorem dL_acts_260 : decode cL_acts 260 = .ok (.bipush (-9), 2) := by decide +kernel
theorem dL_acts_262 : decode cL_acts 262 = .ok (.if_icmp .ne 7, 3) := by decide +kernel
theorem dL_acts_265 : decode cL_acts 265 = .ok (.iconst 1, 1) := by decide +kernel
theorem dL_acts_266 : decode cL_acts 266 = .ok (.goto 4, 3) := by decide +kernel
theorem dL_acts_269 : decode cL_acts 269 = .ok (.iconst 0, 1) := by decide +kernel
theorem dL_acts_270 : decode cL_acts 270 = .ok (.ireturn, 1) := by decide +kernel
theorem dL_acts_271 : decode cL_acts 271 = .ok (.iload 4, 2) := by decide +kernel
theorem dL_acts_273 : decode cL_acts 273 = .ok (.bipush 10, 2) := by decide +kernel
theorem dL_acts_275 : decode cL_acts 275 = .ok (.if_icmp .ge 150, 3) := by decide +kernel
theorem dL_acts_278 : decode cL_acts 278 = .ok (.iconst 1, 1) := by decide +kernel
theorem dL_acts_279 : decode cL_acts 279 = .ok (.iload_n 2, 1) := by decide +kernel
theorem dL_acts_280 : decode cL_acts 280 = .ok (.bipush 10, 2) := by decide +kernel
theorem dL_acts_282 : decode cL_acts 282 = .ok (.ishr, 1) := by decide +kernel
theorem dL_acts_283 : decode cL_acts 283 = .ok (.iconst 1, 1) := by decide +kernel
theorem dL_acts_284 : decode cL_acts 284 = .ok (.iload_n 3, 1) := by decide +kernel
theorem dL_acts_285 : decode cL_acts 285 = .ok (.ishl, 1) := by decide +kernel
theorem dL_acts_286 : decode cL_acts 286 = .ok (.iconst 1, 1) := by decide +kernel
theorem dL_acts_287 : decode cL_acts 287 = .ok (.isub, 1) := by decide +kernel
theorem dL_acts_288 : decode cL_acts 288 = .ok (.invokestatic 41, 3) := by decide +kernel
theorem dL_acts_291 : decode cL_acts 291 = .ok (.iadd, 1) := by decide +kernel
theorem dL_acts_292 : decode cL_acts 292 = .ok (.istore 9, 2) := by decide +kernel
theorem dL_acts_294 : decode cL_acts 294 = .ok (.iconst 1, 1) := by decide +kernel
theorem dL_acts_295 : decode cL_acts 295 = .ok (.iload_n 2, 1) := by decide +kernel
theorem dL_acts_296 : decode cL_acts 296 = .ok (.bipush 15, 2) := by decide +kernel
theorem dL_acts_298 : decode cL_acts 298 = .ok (.ishr, 1) := by decide +kernel
theorem dL_acts_299 : decode cL_acts 299 = .ok (.bipush 100, 2) := by decide +kernel
theorem dL_acts_301 : decode cL_acts 301 = .ok (.invokestatic 41, 3) := by decide +kernel
theorem dL_acts_304 : decode cL_acts 304 = .ok (.iadd, 1) := by decide +kernel
theorem dL_acts_305 : decode cL_acts 305 = .ok (.istore 10, 2) := by decide +kernel
theorem dL_acts_307 : decode cL_acts 307 = .ok (.aload_n 0, 1) := by decide +kernel
theorem dL_acts_308 : decode cL_acts 308 = .ok (.iload 10, 2) := by decide +kernel
theorem dL_acts_310 : decode cL_acts 310 = .ok (.iload 9, 2) := by decide +kernel
theorem dL_acts_312 : decode cL_acts 312 = .ok (.invokevirtual 55, 3) := by decide +kernel
theorem dL_acts_315 : decode cL_acts 315 = .ok (.istore 11, 2) := by decide +kernel
theorem dL_acts_317 : decode cL_acts 317 = .ok (.aload_n 0, 1) := by decide +kernel
theorem dL_acts_318 : decode cL_acts 318 = .ok (.iload 5, 2) := by decide +kernel
theorem dL_acts_320 : decode cL_acts 320 = .ok (.iconst 1, 1) := by decide +kernel
theorem dL_acts_321 : decode cL_acts 321 = .ok (.invokevirtual 27, 3) := by decide +kernel
theorem dL_acts_324 : decode cL_acts 324 = .ok (.istore 12, 2) := by decide +kernel
theorem dL_acts_326 : decode cL_acts 326 = .ok (.aload_n 0, 1) := by decide +kernel
theorem dL_acts_327 : decode cL_acts 327 = .ok (.iload 5, 2) := by decide +kernel
theorem dL_acts_329 : decode cL_acts 329 = .ok (.iconst 2, 1) := by decide +kernel
theorem dL_acts_330 : decode cL_acts 330 = .ok (.invokevirtual 27, 3) := by decide +kernel
theorem dL_acts_333 : decode cL_acts 333 = .ok (.istore 13, 2) := by decide +kernel
theorem dL_acts_335 : decode cL_acts 335 = .ok (.aload_n 0, 1) := by decide +kernel
theorem dL_acts_336 : decode cL_acts 336 = .ok (.iload 10, 2) := by decide +kernel
theorem dL_acts_338 : decode cL_acts 338 = .ok (.iload 9, 2) := by decide +kernel
theorem dL_acts_340 : decode cL_acts 340 = .ok (.invokevirtual 58, 3) := by decide +kernel
theorem dL_acts_343 : decode cL_acts 343 = .ok (.istore 14, 2) := by decide +kernel
theorem dL_acts_345 : decode cL_acts 345 = .ok (.aload_n 0, 1) := by decide +kernel
theorem dL_acts_346 : decode cL_acts 346 = .ok (.iload 5, 2) := by decide +kernel
theorem dL_acts_348 : decode cL_acts 348 = .ok (.iconst 2, 1) := by decide +kernel
theorem dL_acts_349 : decode cL_acts 349 = .ok (.invokevirtual 27, 3) := by decide +kernel
theorem dL_acts_352 : decode cL_acts 352 = .ok (.iload 13, 2) := by decide +kernel
theorem dL_acts_354 : decode cL_acts 354 = .ok (.if_icmp .le 7, 3) := by decide +kernel
theorem dL_acts_357 : decode cL_acts 357 = .ok (.iconst 1, 1) := by decide +kernel
theorem dL_acts_358 : decode cL_acts 358 = .ok (.goto 4, 3) := by decide +kernel
theorem dL_acts_361 : decode cL_acts 361 = .ok (.iconst 0, 1) := by decide +kernel
theorem dL_acts_362 : decode cL_acts 362 = .ok (.istore 15, 2) := by decide +kernel
theorem dL_acts_364 : decode cL_acts 364 = .ok (.iload 14, 2) := by decide +kernel
theorem dL_acts_366 : decode cL_acts 366 = .ok (.iload 11, 2) := by decide +kernel
theorem dL_acts_368 : decode cL_acts 368 = .ok (.if_icmp .ne 55, 3) := by decide +kernel
theorem dL_acts_371 : decode cL_acts 371 = .ok (.iload 14, 2) := by decide +kernel
theorem dL_acts_373 : decode cL_acts 373 = .ok (.iload_n 3, 1) := by decide +kernel
theorem dL_acts_374 : decode cL_acts 374 = .ok (.if_icmp .gt 49, 3) := by decide +kernel
theorem dL_acts_377 : decode cL_acts 377 = .ok (.iload 15, 2) := by decide +kernel
theorem dL_acts_379 : decode cL_acts 379 = .ok (.ifCond .eq 40, 3) := by decide +kernel
theorem dL_acts_382 : decode cL_acts 382 = .ok (.iload 9, 2) := by decide +kernel
theorem dL_acts_384 : decode cL_acts 384 = .ok (.iload 5, 2) := by decide +kernel
theorem dL_acts_386 : decode cL_acts 386 = .ok (.ishr, 1) := by decide +kernel
theorem dL_acts_387 : decode cL_acts 387 = .ok (.iconst 1, 1) := by decide +kernel
theorem dL_acts_388 : decode cL_acts 388 = .ok (.iand, 1) := by decide +kernel
theorem dL_acts_389 : decode cL_acts 389 = .ok (.iconst 1, 1) := by decide +kernel
theorem dL_acts_390 : decode cL_acts 390 = .ok (.if_icmp .ne 33, 3) := by decide +kernel
theorem dL_acts_393 : decode cL_acts 393 = .ok (.bipush 100, 2) := by decide +kernel
theorem dL_acts_395 : decode cL_acts 395 = .ok (.aload_n 0, 1) := by decide +kernel
theorem dL_acts_396 : decode cL_acts 396 = .ok (.iload 5, 2) := by decide +kernel
theorem dL_acts_398 : decode cL_acts 398 = .ok (.iconst 1, 1) := by decide +kernel
theorem dL_acts_399 : decode cL_acts 399 = .ok (.invokevirtual 27, 3) := by decide +kernel
theorem dL_acts_402 : decode cL_acts 402 = .ok (.iload 12, 2) := by decide +kernel
theorem dL_acts_404 : decode cL_acts 404 = .ok (.isub, 1) := by decide +kernel
theorem dL_acts_405 : decode cL_acts 405 = .ok (.imul, 1) := by decide +kernel
theorem dL_acts_406 : decode cL_acts 406 = .ok (.iload 10, 2) := by decide +kernel
theorem dL_acts_408 : decode cL_acts 408 = .ok (.aload_n 0, 1) := by decide +kernel
theorem dL_acts_409 : decode cL_acts 409 = .ok (.iload 5, 2) := by decide +kernel
theorem dL_acts_411 : decode cL_acts 411 = .ok (.iconst 0, 1) := by decide +kernel
theorem dL_acts_412 : decode cL_acts 412 = .ok (.invokevirtual 27, 3) := by decide +kernel
theorem dL_acts_415 : decode cL_acts 415 = .ok (.imul, 1) := by decide +kernel
theorem dL_acts_416 : decode cL_acts 416 = .ok (.if_icmp .lt 7, 3) := by decide +kernel
theorem dL_acts_419 : decode cL_acts 419 = .ok (.iconst 1, 1) := by decide +kernel
theorem dL_acts_420 : decode cL_acts 420 = .ok (.goto 4, 3) := by decide +kernel
theorem dL_acts_423 : decode cL_acts 423 = .ok (.iconst 0, 1) := by decide +kernel
theorem dL_acts_424 : decode cL_acts 424 = .ok (.ireturn, 1) := by decide +kernel
theorem dL_acts_425 : decode cL_acts 425 = .ok (.iload 4, 2) := by decide +kernel
theorem dL_acts_427 : decode cL_acts 427 = .ok (.bipush 10, 2) := by decide +kernel
theorem dL_acts_429 : decode cL_acts 429 = .ok (.if_icmp .ne 222, 3) := by decide +kernel
theorem dL_acts_432 : decode cL_acts 432 = .ok (.iload 7, 2) := by decide +kernel
theorem dL_acts_434 : decode cL_acts 434 = .ok (.bipush 23, 2) := by decide +kernel
theorem dL_acts_436 : decode cL_acts 436 = .ok (.if_icmp .ge 7, 3) := by decide +kernel
theorem dL_acts_439 : decode cL_acts 439 = .ok (.iconst 1, 1) := by decide +kernel
theorem dL_acts_440 : decode cL_acts 440 = .ok (.goto 4, 3) := by decide +kernel
theorem dL_acts_443 : decode cL_acts 443 = .ok (.iconst 0, 1) := by decide +kernel
theorem dL_acts_444 : decode cL_acts 444 = .ok (.istore 9, 2) := by decide +kernel
theorem dL_acts_446 : decode cL_acts 446 = .ok (.iload 7, 2) := by decide +kernel
theorem dL_acts_448 : decode cL_acts 448 = .ok (.bipush 23, 2) := by decide +kernel
theorem dL_acts_450 : decode cL_acts 450 = .ok (.if_icmp .ge 20, 3) := by decide +kernel
theorem dL_acts_453 : decode cL_acts 453 = .ok (.iload 8, 2) := by decide +kernel
theorem dL_acts_455 : decode cL_acts 455 = .ok (.iload 7, 2) := by decide +kernel
theorem dL_acts_457 : decode cL_acts 457 = .ok (.if_icmp .le 8, 3) := by decide +kernel
theorem dL_acts_460 : decode cL_acts 460 = .ok (.iload 8, 2) := by decide +kernel
theorem dL_acts_462 : decode cL_acts 462 = .ok (.goto 10, 3) := by decide +kernel
theorem dL_acts_465 : decode cL_acts 465 = .ok (.bipush 23, 2) := by decide +kernel
theorem dL_acts_467 : decode cL_acts 467 = .ok (.goto 5, 3) := by decide +kernel
theorem dL_acts_470 : decode cL_acts 470 = .ok (.bipush 23, 2) := by decide +kernel
theorem dL_acts_472 : decode cL_acts 472 = .ok (.istore 10, 2) := by decide +kernel
theorem dL_acts_474 : decode cL_acts 474 = .ok (.iload 7, 2) := by decide +kernel
theorem dL_acts_476 : decode cL_acts 476 = .ok (.istore 11, 2) := by decide +kernel
theorem dL_acts_478 : decode cL_acts 478 = .ok (.iload 11, 2) := by decide +kernel
theorem dL_acts_480 : decode cL_acts 480 = .ok (.iload 10, 2) := by decide +kernel
theorem dL_acts_482 : decode cL_acts 482 = .ok (.if_icmp .gt 32, 3) := by decide +kernel
theorem dL_acts_485 : decode cL_acts 485 = .ok (.iload 9, 2) := by decide +kernel
theorem dL_acts_487 : decode cL_acts 487 = .ok (.ifCond .eq 18, 3) := by decide +kernel
theorem dL_acts_490 : decode cL_acts 490 = .ok (.aload_n 0, 1) := by decide +kernel
theorem dL_acts_491 : decode cL_acts 491 = .ok (.iload 11, 2) := by decide +kernel
theorem dL_acts_493 : decode cL_acts 493 = .ok (.invokevirtual 8, 3) := by decide +kernel
theorem dL_acts_496 : decode cL_acts 496 = .ok (.bipush (-9), 2) := by decide +kernel
theorem dL_acts_498 : decode cL_acts 498 = .ok (.if_icmp .ne 7, 3) := by decide +kernel
theorem dL_acts_501 : decode cL_acts 501 = .ok (.iconst 1, 1) := by decide +kernel
theorem dL_acts_502 : decode cL_acts 502 = .ok (.goto 4, 3) := by decide +kernel
theorem dL_acts_505 : decode cL_acts 505 = .ok (.iconst 0, 1) := by decide +kernel
theorem dL_acts_506 : decode cL_acts 506 = .ok (.istore 9, 2) := by decide +kernel
theorem dL_acts_508 : decode cL_acts 508 = .ok (.iinc 11 1, 3) := by decide +kernel
theorem dL_acts_511 : decode cL_acts 511 = .ok (.goto (-33), 3) := by decide +kernel
theorem dL_acts_514 : decode cL_acts 514 = .ok (.iload 7, 2) := by decide +kernel
theorem dL_acts_516 : decode cL_acts 516 = .ok (.bipush 23, 2) := by decide +kernel
theorem dL_acts_518 : decode cL_acts 518 = .ok (.if_icmp .eq 10, 3) := by decide +kernel
theorem dL_acts_521 : decode cL_acts 521 = .ok (.iload 5, 2) := by decide +kernel
theorem dL_acts_523 : decode cL_acts 523 = .ok (.iload 6, 2) := by decide +kernel
theorem dL_acts_525 : decode cL_acts 525 = .ok (.if_icmp .ne 25, 3) := by decide +kernel
theorem dL_acts_528 : decode cL_acts 528 = .ok (.aload_n 0, 1) := by decide +kernel
theorem dL_acts_529 : decode cL_acts 529 = .ok (.iload 5, 2) := by decide +kernel
theorem dL_acts_531 : decode cL_acts 531 = .ok (.iload 6, 2) := by decide +kernel
theorem dL_acts_533 : decode cL_acts 533 = .ok (.iload 7, 2) := by decide +kernel
theorem dL_acts_535 : decode cL_acts 535 = .ok (.iload 10, 2) := by decide +kernel
theorem dL_acts_537 : decode cL_acts 537 = .ok (.invokevirtual 61, 3) := by decide +kernel
theorem dL_acts_540 : decode cL_acts 540 = .ok (.iconst (-1), 1) := by decide +kernel
theorem dL_acts_541 : decode cL_acts 541 = .ok (.if_icmp .ne 7, 3) := by decide +kernel
theorem dL_acts_544 : decode cL_acts 544 = .ok (.iconst 1, 1) := by decide +kernel
theorem dL_acts_545 : decode cL_acts 545 = .ok (.goto 4, 3) := by decide +kernel
theorem dL_acts_548 : decode cL_acts 548 = .ok (.iconst 0, 1) := by decide +kernel
theorem dL_acts_549 : decode cL_acts 549 = .ok (.ireturn, 1) := by decide +kernel
theorem dL_acts_550 : decode cL_acts 550 = .ok (.aload_n 0, 1) := by decide +kernel
theorem dL_acts_551 : decode cL_acts 551 = .ok (.iload 5, 2) := by decide +kernel
theorem dL_acts_553 : decode cL_acts 553 = .ok (.iload 6, 2) := by decide +kernel
theorem dL_acts_555 : decode cL_acts 555 = .ok (.iload 7, 2) := by decide +kernel
theorem dL_acts_557 : decode cL_acts 557 = .ok (.iload 10, 2) := by decide +kernel
theorem dL_acts_559 : decode cL_acts 559 = .ok (.invokevirtual 61, 3) := by decide +kernel
theorem dL_acts_562 : decode cL_acts 562 = .ok (.istore 11, 2) := by decide +kernel
theorem dL_acts_564 : decode cL_acts 564 = .ok (.iload 9, 2) := by decide +kernel
theorem dL_acts_566 : decode cL_acts 566 = .ok (.ifCond .eq 72, 3) := by decide +kernel
theorem dL_acts_569 : decode cL_acts 569 = .ok (.iload 11, 2) := by decide +kernel
theorem dL_acts_571 : decode cL_acts 571 = .ok (.iload 7, 2) := by decide +kernel
theorem dL_acts_573 : decode cL_acts 573 = .ok (.if_icmp .le 61, 3) := by decide +kernel
theorem dL_acts_576 : decode cL_acts 576 = .ok (.iload 11, 2) := by decide +kernel
theorem dL_acts_578 : decode cL_acts 578 = .ok (.iload 10, 2) := by decide +kernel
theorem dL_acts_580 : decode cL_acts 580 = .ok (.if_icmp .gt 54, 3) := by decide +kernel
theorem dL_acts_583 : decode cL_acts 583 = .ok (.aload_n 0, 1) := by decide +kernel
theorem dL_acts_584 : decode cL_acts 584 = .ok (.iload 7, 2) := by decide +kernel
theorem dL_acts_586 : decode cL_acts 586 = .ok (.invokevirtual 8, 3) := by decide +kernel
theorem dL_acts_589 : decode cL_acts 589 = .ok (.aload_n 0, 1) := by decide +kernel
theorem dL_acts_590 : decode cL_acts 590 = .ok (.iload 11, 2) := by decide +kernel
theorem dL_acts_592 : decode cL_acts 592 = .ok (.iconst 1, 1) := by decide +kernel
theorem dL_acts_593 : decode cL_acts 593 = .ok (.isub, 1) := by decide +kernel
theorem dL_acts_594 : decode cL_acts 594 = .ok (.invokevirtual 8, 3) := by decide +kernel
theorem dL_acts_597 : decode cL_acts 597 = .ok (.if_icmp .ne 37, 3) := by decide +kernel
theorem dL_acts_600 : decode cL_acts 600 = .ok (.aload_n 0, 1) := by decide +kernel
theorem dL_acts_601 : decode cL_acts 601 = .ok (.iload 11, 2) := by decide +kernel
theorem dL_acts_603 : decode cL_acts 603 = .ok (.invokevirtual 8, 3) := by decide +kernel
theorem dL_acts_606 : decode cL_acts 606 = .ok (.aload_n 0, 1) := by decide +kernel
theorem dL_acts_607 : decode cL_acts 607 = .ok (.iload 10, 2) := by decide +kernel
theorem dL_acts_609 : decode cL_acts 609 = .ok (.invokevirtual 8, 3) := by decide +kernel
theorem dL_acts_612 : decode cL_acts 612 = .ok (.if_icmp .ne 22, 3) := by decide +kernel
theorem dL_acts_615 : decode cL_acts 615 = .ok (.aload_n 0, 1) := by decide +kernel
theorem dL_acts_616 : decode cL_acts 616 = .ok (.iload 7, 2) := by decide +kernel
theorem dL_acts_618 : decode cL_acts 618 = .ok (.invokevirtual 8, 3) := by decide +kernel
theorem dL_acts_621 : decode cL_acts 621 = .ok (.aload_n 0, 1) := by decide +kernel
theorem dL_acts_622 : decode cL_acts 622 = .ok (.iload 10, 2) := by decide +kernel
theorem dL_acts_624 : decode cL_acts 624 = .ok (.invokevirtual 8, 3) := by decide +kernel
theorem dL_acts_627 : decode cL_acts 627 = .ok (.if_icmp .eq 7, 3) := by decide +kernel
theorem dL_acts_630 : decode cL_acts 630 = .ok (.iconst 1, 1) := by decide +kernel
theorem dL_acts_631 : decode cL_acts 631 = .ok (.goto 19, 3) := by decide +kernel
theorem dL_acts_634 : decode cL_acts 634 = .ok (.iconst 0, 1) := by decide +kernel
theorem dL_acts_635 : decode cL_acts 635 = .ok (.goto 15, 3) := by decide +kernel
theorem dL_acts_638 : decode cL_acts 638 = .ok (.iload 11, 2) := by decide +kernel
theorem dL_acts_640 : decode cL_acts 640 = .ok (.bipush (-2), 2) := by decide +kernel
theorem dL_acts_642 : decode cL_acts 642 = .ok (.if_icmp .ne 7, 3) := by decide +kernel
theorem dL_acts_645 : decode cL_acts 645 = .ok (.iconst 1, 1) := by decide +kernel
theorem dL_acts_646 : decode cL_acts 646 = .ok (.goto 4, 3) := by decide +kernel
theorem dL_acts_649 : decode cL_acts 649 = .ok (.iconst 0, 1) := by decide +kernel
theorem dL_acts_650 : decode cL_acts 650 = .ok (.ireturn, 1) := by decide +kernel
theorem dL_acts_651 : decode cL_acts 651 = .ok (.iload 4, 2) := by decide +kernel
theorem dL_acts_653 : decode cL_acts 653 = .ok (.bipush 13, 2) := by decide +kernel
theorem dL_acts_655 : decode cL_acts 655 = .ok (.if_icmp .ge 75, 3) := by decide +kernel
theorem dL_acts_658 : decode cL_acts 658 = .ok (.iload 5, 2) := by decide +kernel
theorem dL_acts_660 : decode cL_acts 660 = .ok (.iload 6, 2) := by decide +kernel
theorem dL_acts_662 : decode cL_acts 662 = .ok (.if_icmp .ne 21, 3) := by decide +kernel
theorem dL_acts_665 : decode cL_acts 665 = .ok (.aload_n 0, 1) := by decide +kernel
theorem dL_acts_666 : decode cL_acts 666 = .ok (.iload 5, 2) := by decide +kernel
theorem dL_acts_668 : decode cL_acts 668 = .ok (.iload 6, 2) := by decide +kernel
theorem dL_acts_670 : decode cL_acts 670 = .ok (.invokevirtual 64, 3) := by decide +kernel
theorem dL_acts_673 : decode cL_acts 673 = .ok (.iconst (-1), 1) := by decide +kernel
theorem dL_acts_674 : decode cL_acts 674 = .ok (.if_icmp .ne 7, 3) := by decide +kernel
theorem dL_acts_677 : decode cL_acts 677 = .ok (.iconst 1, 1) := by decide +kernel
theorem dL_acts_678 : decode cL_acts 678 = .ok (.goto 4, 3) := by decide +kernel
theorem dL_acts_681 : decode cL_acts 681 = .ok (.iconst 0, 1) := by decide +kernel
theorem dL_acts_682 : decode cL_acts 682 = .ok (.ireturn, 1) := by decide +kernel
theorem dL_acts_683 : decode cL_acts 683 = .ok (.aload_n 0, 1) := by decide +kernel
theorem dL_acts_684 : decode cL_acts 684 = .ok (.iconst 1, 1) := by decide +kernel
theorem dL_acts_685 : decode cL_acts 685 = .ok (.invokevirtual 18, 3) := by decide +kernel
theorem dL_acts_688 : decode cL_acts 688 = .ok (.istore 9, 2) := by decide +kernel
theorem dL_acts_690 : decode cL_acts 690 = .ok (.aload_n 0, 1) := by decide +kernel
theorem dL_acts_691 : decode cL_acts 691 = .ok (.iload 5, 2) := by decide +kernel
theorem dL_acts_693 : decode cL_acts 693 = .ok (.iload 6, 2) := by decide +kernel
theorem dL_acts_695 : decode cL_acts 695 = .ok (.invokevirtual 64, 3) := by decide +kernel
theorem dL_acts_698 : decode cL_acts 698 = .ok (.istore 10, 2) := by decide +kernel
theorem dL_acts_700 : decode cL_acts 700 = .ok (.aload_n 0, 1) := by decide +kernel
theorem dL_acts_701 : decode cL_acts 701 = .ok (.iconst 1, 1) := by decide +kernel
theorem dL_acts_702 : decode cL_acts 702 = .ok (.invokevirtual 18, 3) := by decide +kernel
theorem dL_acts_705 : decode cL_acts 705 = .ok (.iload 9, 2) := by decide +kernel
theorem dL_acts_707 : decode cL_acts 707 = .ok (.iload 10, 2) := by decide +kernel
theorem dL_acts_709 : decode cL_acts 709 = .ok (.iadd, 1) := by decide +kernel
theorem dL_acts_710 : decode cL_acts 710 = .ok (.if_icmp .ne 18, 3) := by decide +kernel
theorem dL_acts_713 : decode cL_acts 713 = .ok (.aload_n 0, 1) := by decide +kernel
theorem dL_acts_714 : decode cL_acts 714 = .ok (.iload 6, 2) := by decide +kernel
theorem dL_acts_716 : decode cL_acts 716 = .ok (.iload 5, 2) := by decide +kernel
theorem dL_acts_718 : decode cL_acts 718 = .ok (.invokevirtual 30, 3) := by decide +kernel
theorem dL_acts_721 : decode cL_acts 721 = .ok (.ifCond .ne 7, 3) := by decide +kernel
theorem dL_acts_724 : decode cL_acts 724 = .ok (.iconst 1, 1) := by decide +kernel
theorem dL_acts_725 : decode cL_acts 725 = .ok (.goto 4, 3) := by decide +kernel
theorem dL_acts_728 : decode cL_acts 728 = .ok (.iconst 0, 1) := by decide +kernel
theorem dL_acts_729 : decode cL_acts 729 = .ok (.ireturn, 1) := by decide +kernel
theorem dL_acts_730 : decode cL_acts 730 = .ok (.iload 4, 2) := by decide +kernel
theorem dL_acts_732 : decode cL_acts 732 = .ok (.bipush 13, 2) := by decide +kernel
theorem dL_acts_734 : decode cL_acts 734 = .ok (.if_icmp .ne 103, 3) := by decide +kernel
theorem dL_acts_737 : decode cL_acts 737 = .ok (.aload_n 0, 1) := by decide +kernel
theorem dL_acts_738 : decode cL_acts 738 = .ok (.iconst 0, 1) := by decide +kernel
theorem dL_acts_739 : decode cL_acts 739 = .ok (.invokevirtual 37, 3) := by decide +kernel
theorem dL_acts_742 : decode cL_acts 742 = .ok (.istore 9, 2) := by decide +kernel
theorem dL_acts_744 : decode cL_acts 744 = .ok (.iload 9, 2) := by decide +kernel
theorem dL_acts_746 : decode cL_acts 746 = .ok (.ifCond .ge 7, 3) := by decide +kernel
theorem dL_acts_749 : decode cL_acts 749 = .ok (.iconst 0, 1) := by decide +kernel
theorem dL_acts_750 : decode cL_acts 750 = .ok (.goto 10, 3) := by decide +kernel
theorem dL_acts_753 : decode cL_acts 753 = .ok (.aload_n 0, 1) := by decide +kernel
theorem dL_acts_754 : decode cL_acts 754 = .ok (.iload 9, 2) := by decide +kernel
theorem dL_acts_756 : decode cL_acts 756 = .ok (.iconst 1, 1) := by decide +kernel
theorem dL_acts_757 : decode cL_acts 757 = .ok (.invokevirtual 27, 3) := by decide +kernel
theorem dL_acts_760 : decode cL_acts 760 = .ok (.istore 10, 2) := by decide +kernel
theorem dL_acts_762 : decode cL_acts 762 = .ok (.iload 9, 2) := by decide +kernel
theorem dL_acts_764 : decode cL_acts 764 = .ok (.ifCond .ge 7, 3) := by decide +kernel
theorem dL_acts_767 : decode cL_acts 767 = .ok (.iconst 0, 1) := by decide +kernel
theorem dL_acts_768 : decode cL_acts 768 = .ok (.goto 14, 3) := by decide +kernel
theorem dL_acts_771 : decode cL_acts 771 = .ok (.aload_n 0, 1) := by decide +kernel
theorem dL_acts_772 : decode cL_acts 772 = .ok (.iload 9, 2) := by decide +kernel
theorem dL_acts_774 : decode cL_acts 774 = .ok (.aload_n 0, 1) := by decide +kernel
theorem dL_acts_775 : decode cL_acts 775 = .ok (.iconst 1, 1) := by decide +kernel
theorem dL_acts_776 : decode cL_acts 776 = .ok (.invokevirtual 37, 3) := by decide +kernel
theorem dL_acts_779 : decode cL_acts 779 = .ok (.invokevirtual 30, 3) := by decide +kernel
theorem dL_acts_782 : decode cL_acts 782 = .ok (.istore 11, 2) := by decide +kernel
theorem dL_acts_784 : decode cL_acts 784 = .ok (.aload_n 0, 1) := by decide +kernel
theorem dL_acts_785 : decode cL_acts 785 = .ok (.invokevirtual 67, 3) := by decide +kernel
theorem dL_acts_788 : decode cL_acts 788 = .ok (.istore 12, 2) := by decide +kernel
theorem dL_acts_790 : decode cL_acts 790 = .ok (.iload 9, 2) := by decide +kernel
theorem dL_acts_792 : decode cL_acts 792 = .ok (.ifCond .ge 18, 3) := by decide +kernel
theorem dL_acts_795 : decode cL_acts 795 = .ok (.iload 12, 2) := by decide +kernel
theorem dL_acts_797 : decode cL_acts 797 = .ok (.bipush (-2), 2) := by decide +kernel
theorem dL_acts_799 : decode cL_acts 799 = .ok (.if_icmp .ne 7, 3) := by decide +kernel
theorem dL_acts_802 : decode cL_acts 802 = .ok (.iconst 1, 1) := by decide +kernel
theorem dL_acts_803 : decode cL_acts 803 = .ok (.goto 33, 3) := by decide +kernel
theorem dL_acts_806 : decode cL_acts 806 = .ok (.iconst 0, 1) := by decide +kernel
theorem dL_acts_807 : decode cL_acts 807 = .ok (.goto 29, 3) := by decide +kernel
theorem dL_acts_810 : decode cL_acts 810 = .ok (.iload 12, 2) := by decide +kernel
theorem dL_acts_812 : decode cL_acts 812 = .ok (.iconst 1, 1) := by decide +kernel
theorem dL_acts_813 : decode cL_acts 813 = .ok (.if_icmp .le 22, 3) := by decide +kernel
theorem dL_acts_816 : decode cL_acts 816 = .ok (.aload_n 0, 1) := by decide +kernel
theorem dL_acts_817 : decode cL_acts 817 = .ok (.iload 9, 2) := by decide +kernel
theorem dL_acts_819 : decode cL_acts 819 = .ok (.iconst 1, 1) := by decide +kernel
theorem dL_acts_820 : decode cL_acts 820 = .ok (.invokevirtual 27, 3) := by decide +kernel
theorem dL_acts_823 : decode cL_acts 823 = .ok (.iload 10, 2) := by decide +kernel
theorem dL_acts_825 : decode cL_acts 825 = .ok (.iload 11, 2) := by decide +kernel
theorem dL_acts_827 : decode cL_acts 827 = .ok (.iadd, 1) := by decide +kernel
theorem dL_acts_828 : decode cL_acts 828 = .ok (.if_icmp .ne 7, 3) := by decide +kernel
theorem dL_acts_831 : decode cL_acts 831 = .ok (.iconst 1, 1) := by decide +kernel
theorem dL_acts_832 : decode cL_acts 832 = .ok (.goto 4, 3) := by decide +kernel
theorem dL_acts_835 : decode cL_acts 835 = .ok (.iconst 0, 1) := by decide +kernel
theorem dL_acts_836 : decode cL_acts 836 = .ok (.ireturn, 1) := by decide +kernel
theorem dL_acts_837 : decode cL_acts 837 = .ok (.iload 4, 2) := by decide +kernel
theorem dL_acts_839 : decode cL_acts 839 = .ok (.bipush 14, 2) := by decide +kernel
theorem dL_acts_841 : decode cL_acts 841 = .ok (.if_icmp .ne 42, 3) := by decide +kernel
theorem dL_acts_844 : decode cL_acts 844 = .ok (.iload_n 3, 1) := by decide +kernel
theorem dL_acts_845 : decode cL_acts 845 = .ok (.iconst 4, 1) := by decide +kernel
theorem dL_acts_846 : decode cL_acts 846 = .ok (.if_icmp .ge 37, 3) := by decide +kernel
theorem dL_acts_849 : decode cL_acts 849 = .ok (.aload_n 0, 1) := by decide +kernel
theorem dL_acts_850 : decode cL_acts 850 = .ok (.invokevirtual 71, 3) := by decide +kernel
theorem dL_acts_853 : decode cL_acts 853 = .ok (.iload_n 3, 1) := by decide +kernel
theorem dL_acts_854 : decode cL_acts 854 = .ok (.if_icmp .ne 27, 3) := by decide +kernel
theorem dL_acts_857 : decode cL_acts 857 = .ok (.aload_n 0, 1) := by decide +kernel
theorem dL_acts_858 : decode cL_acts 858 = .ok (.iload_n 3, 1) := by decide +kernel
theorem dL_acts_859 : decode cL_acts 859 = .ok (.iconst 0, 1) := by decide +kernel
theorem dL_acts_860 : decode cL_acts 860 = .ok (.invokevirtual 27, 3) := by decide +kernel
theorem dL_acts_863 : decode cL_acts 863 = .ok (.bipush 24, 2) := by decide +kernel
theorem dL_acts_865 : decode cL_acts 865 = .ok (.if_icmp .ne 16, 3) := by decide +kernel
theorem dL_acts_868 : decode cL_acts 868 = .ok (.aload_n 0, 1) := by decide +kernel
theorem dL_acts_869 : decode cL_acts 869 = .ok (.iload_n 3, 1) := by decide +kernel
theorem dL_acts_870 : decode cL_acts 870 = .ok (.iconst 2, 1) := by decide +kernel
theorem dL_acts_871 : decode cL_acts 871 = .ok (.invokevirtual 27, 3) := by decide +kernel
theorem dL_acts_874 : decode cL_acts 874 = .ok (.ifCond .ne 7, 3) := by decide +kernel
theorem dL_acts_877 : decode cL_acts 877 = .ok (.iconst 1, 1) := by decide +kernel
theorem dL_acts_878 : decode cL_acts 878 = .ok (.goto 4, 3) := by decide +kernel
theorem dL_acts_881 : decode cL_acts 881 = .ok (.iconst 0, 1) := by decide +kernel
theorem dL_acts_882 : decode cL_acts 882 = .ok (.ireturn, 1) := by decide +kernel
theorem dL_acts_883 : decode cL_acts 883 = .ok (.aload_n 0, 1) := by decide +kernel
theorem dL_acts_884 : decode cL_acts 884 = .ok (.iload 5, 2) := by decide +kernel
theorem dL_acts_886 : decode cL_acts 886 = .ok (.invokevirtual 74, 3) := by decide +kernel
theorem dL_acts_889 : decode cL_acts 889 = .ok (.istore 9, 2) := by decide +kernel
theorem dL_acts_891 : decode cL_acts 891 = .ok (.iload 9, 2) := by decide +kernel
theorem dL_acts_893 : decode cL_acts 893 = .ok (.ifCond .le 70, 3) := by decide +kernel
theorem dL_acts_896 : decode cL_acts 896 = .ok (.iload 9, 2) := by decide +kernel
theorem dL_acts_898 : decode cL_acts 898 = .ok (.bipush 24, 2) := by decide +kernel
theorem dL_acts_900 : decode cL_acts 900 = .ok (.if_icmp .ge 63, 3) := by decide +kernel
theorem dL_acts_903 : decode cL_acts 903 = .ok (.iload_n 3, 1) := by decide +kernel
theorem dL_acts_904 : decode cL_acts 904 = .ok (.iconst 4, 1) := by decide +kernel
theorem dL_acts_905 : decode cL_acts 905 = .ok (.if_icmp .eq 54, 3) := by decide +kernel
theorem dL_acts_908 : decode cL_acts 908 = .ok (.aload_n 0, 1) := by decide +kernel
theorem dL_acts_909 : decode cL_acts 909 = .ok (.iconst 0, 1) := by decide +kernel
theorem dL_acts_910 : decode cL_acts 910 = .ok (.invokevirtual 77, 3) := by decide +kernel
theorem dL_acts_913 : decode cL_acts 913 = .ok (.ifCond .lt 50, 3) := by decide +kernel
theorem dL_acts_916 : decode cL_acts 916 = .ok (.aload_n 0, 1) := by decide +kernel
theorem dL_acts_917 : decode cL_acts 917 = .ok (.iconst 1, 1) := by decide +kernel
theorem dL_acts_918 : decode cL_acts 918 = .ok (.invokevirtual 77, 3) := by decide +kernel
theorem dL_acts_921 : decode cL_acts 921 = .ok (.ifCond .le 42, 3) := by decide +kernel
theorem dL_acts_924 : decode cL_acts 924 = .ok (.aload_n 0, 1) := by decide +kernel
theorem dL_acts_925 : decode cL_acts 925 = .ok (.iconst 2, 1) := by decide +kernel
theorem dL_acts_926 : decode cL_acts 926 = .ok (.invokevirtual 77, 3) := by decide +kernel
theorem dL_acts_929 : decode cL_acts 929 = .ok (.ifCond .lt 34, 3) := by decide +kernel
theorem dL_acts_932 : decode cL_acts 932 = .ok (.iload_n 3, 1) := by decide +kernel
theorem dL_acts_933 : decode cL_acts 933 = .ok (.iconst 2, 1) := by decide +kernel
theorem dL_acts_934 : decode cL_acts 934 = .ok (.if_icmp .lt 25, 3) := by decide +kernel
theorem dL_acts_937 : decode cL_acts 937 = .ok (.aload_n 0, 1) := by decide +kernel
theorem dL_acts_938 : decode cL_acts 938 = .ok (.iconst 1, 1) := by decide +kernel
theorem dL_acts_939 : decode cL_acts 939 = .ok (.iload_n 3, 1) := by decide +kernel
theorem dL_acts_940 : decode cL_acts 940 = .ok (.iadd, 1) := by decide +kernel
theorem dL_acts_941 : decode cL_acts 941 = .ok (.invokevirtual 77, 3) := by decide +kernel
theorem dL_acts_944 : decode cL_acts 944 = .ok (.ifCond .le 19, 3) := by decide +kernel
theorem dL_acts_947 : decode cL_acts 947 = .ok (.aload_n 0, 1) := by decide +kernel
theorem dL_acts_948 : decode cL_acts 948 = .ok (.iconst 2, 1) := by decide +kernel
theorem dL_acts_949 : decode cL_acts 949 = .ok (.iload_n 3, 1) := by decide +kernel
theorem dL_acts_950 : decode cL_acts 950 = .ok (.iadd, 1) := by decide +kernel
theorem dL_acts_951 : decode cL_acts 951 = .ok (.invokevirtual 77, 3) := by decide +kernel
theorem dL_acts_954 : decode cL_acts 954 = .ok (.bipush (-9), 2) := by decide +kernel
theorem dL_acts_956 : decode cL_acts 956 = .ok (.if_icmp .ne 7, 3) := by decide +kernel
theorem dL_acts_959 : decode cL_acts 959 = .ok (.iconst 1, 1) := by decide +kernel
theorem dL_acts_960 : decode cL_acts 960 = .ok (.goto 4, 3) := by decide +kernel
theorem dL_acts_963 : decode cL_acts 963 = .ok (.iconst 0, 1) := by decide +kernel
theorem dL_acts_964 : decode cL_acts 964 = .ok (.ireturn, 1) := by decide +kernel
set_option maxRecDepth 20000 in
theorem ggL_law_X6_init : GoodIn wsL_law wsX6_init := goodIn_r _ [5, 6, 7, 8, 9, 10, 11, 12, 13, 14, 15, 16, 17, 18, 19, 20, 21, 22, 23, 24, 25, 26, 27, 28, 29, 30, 31, 32, 33, 34, 35, 36, 37, 38, 39, 40, 41, 42, 43, 44, 45, 46, 47, 48, 49, 50, 51, 52, 53, 54, 55, 56, 57, 58, 59, 60, 61, 62, 63, 64, 65, 66, 67, 68, 69, 70, 71, 72, 73, 74, 75, 76, 77, 78, 79, 80, 81, 82, 83, 84, 85, 473, 474, 475, 465, 466, 467, 468, 469, 470, 471, 472, 476, 477, 478, 479, 480, 481, 482, 483, 484, 485, 486, 487, 488, 489, 490, 491, 492, 493, 494, 495, 496, 497, 498, 499, 500] (by decide +kernel) (by decide +kernel)
set_option maxRecDepth 20000 in
theorem gL_law_X6_init : GoodIn wsL_law (wsX6_init) := ggL_law_X6_init
set_option maxRecDepth 20000 in
theorem ggL_law_X6_best : GoodIn wsL_law wsX6_best := goodIn_r _ [89, 12, 90, 30, 91, 92, 93, 94, 95, 96, 97, 2, 98, 31, 99, 100, 101, 29, 102, 77, 103, 104, 105, 106, 107, 108, 70, 71, 74, 83, 109, 81, 110, 111, 112, 113, 80, 114, 115, 116, 117, 85, 84, 118, 119, 120, 121, 79, 122, 123, 124, 58, 125, 126, 127, 128, 65, 66, 129, 130, 131, 132, 64, 133, 134, 135, 136, 137, 138, 139, 140, 141, 142, 143, 144, 145, 72, 73, 146, 147, 148, 149, 150, 151, 152, 153, 154, 155, 156, 157, 158, 159, 160, 161, 75, 76, 162, 163, 164, 165, 166, 167, 168, 169, 170, 171, 172, 173, 174, 175, 465, 466, 467, 468, 469, 470, 471, 472, 473, 474, 475, 484, 485, 486, 487, 488, 489, 490, 491, 492, 493, 494, 495, 496, 497, 498, 499, 500] (by decide +kernel) (by decide +kernel)
set_option maxRecDepth 20000 in
theorem gL_law_X6_best : GoodIn wsL_law (wsV RL 77 RX6 yX6_best wsX6_best) := goodIn_app (goodIn_of _ (by decide +kernel)) ggL_law_X6_best
set_option maxRecDepth 20000 in
theorem ggL_law_X6_calm : GoodIn wsL_law wsX6_calm := goodIn_r _ [179, 12, 90, 30, 180, 181, 182, 95, 96, 97, 2, 98, 31, 99, 100, 101, 29, 102, 77, 103, 104, 105, 106, 107, 108, 70, 71, 74, 83, 109, 81, 110, 111, 112, 113, 80, 114, 115, 116, 117, 85, 84, 118, 119, 120, 121, 79, 122, 123, 124, 58, 125, 126, 127, 128, 65, 66, 129, 130, 131, 132, 64, 133, 134, 135, 136, 137, 138, 139, 140, 141, 142, 143, 144, 145, 72, 73, 146, 147, 148, 149, 150, 151, 152, 153, 154, 155, 156, 157, 158, 159, 160, 161, 75, 76, 162, 163, 164, 165, 465, 466, 467, 468, 469, 470, 471, 472, 473, 474, 475, 484, 485, 486, 487, 488, 489, 490, 491, 492, 493, 494, 495, 496, 497, 498, 499, 500] (by decide +kernel) (by decide +kernel)
set_option maxRecDepth 20000 in
theorem gL_law_X6_calm : GoodIn wsL_law (wsV RL 81 RX6 yX6_calm wsX6_calm) := goodIn_app (goodIn_of _ (by decide +kernel)) ggL_law_X6_calm
set_option maxRecDepth 20000 in
theorem ggL_law_X6_undo : GoodIn wsL_law wsX6_undo := goodIn_r _ [186, 14, 12, 13, 31, 187, 188, 189, 11, 190, 36, 38, 40, 191, 192, 193, 194, 195, 196, 197, 198, 199, 200, 201, 202, 465, 466, 467, 468, 469, 470, 471, 472, 473, 474, 475] (by decide +kernel) (by decide +kernel)
set_option maxRecDepth 20000 in
theorem gL_law_X6_undo : GoodIn wsL_law (wsV RL 84 RX6 yX6_undo wsX6_undo) := goodIn_app (goodIn_of _ (by decide +kernel)) ggL_law_X6_undo
set_option maxRecDepth 20000 in
theorem ggL_law_X6_exchange : GoodIn wsL_law wsX6_exchange := goodIn_r _ [206, 26, 12, 207, 208, 209, 210, 25, 211, 212, 59, 213, 214, 215, 216, 217, 60, 218, 219, 220, 11, 221, 222, 111, 112, 113, 223, 224, 225, 226, 227, 228, 229, 230, 38, 40, 231, 123, 124, 58, 125, 126, 127, 128, 65, 66, 129, 130, 131, 132, 64, 133, 134, 135, 136, 232, 233, 234, 235, 236, 237, 238, 147, 148, 149, 239, 240, 241, 2, 242, 14, 13, 31, 243, 244, 245, 246, 187, 188, 189, 190, 36, 191, 192, 193, 194, 195, 196, 197, 198, 199, 200, 201, 202, 247, 248, 249, 250, 251, 252, 253, 254, 255, 256, 465, 466, 467, 468, 469, 470, 471, 472, 482, 483, 473, 474, 475, 498, 499, 500] (by decide +kernel) (by decide +kernel)
set_option maxRecDepth 20000 in
theorem gL_law_X6_exchange : GoodIn wsL_law (wsV RL 67 RX6 yX6_exchange wsX6_exchange) := goodIn_app (goodIn_of _ (by decide +kernel)) ggL_law_X6_exchange
set_option maxRecDepth 20000 in
theorem ggL_law_X6_count : GoodIn wsL_law wsX6_count := goodIn_r _ [260, 12, 90, 14, 18, 261, 262, 263, 264, 11, 265, 38, 266, 267, 268, 269, 36, 270, 219, 220, 221, 222, 111, 112, 113, 223, 224, 225, 226, 227, 228, 229, 230, 40, 271, 272, 273, 274, 275, 276, 277, 278, 279, 280, 281, 282, 283, 284, 285, 286, 465, 466, 467, 468, 469, 470, 471, 472, 473, 474, 475, 476, 477, 478, 479, 480] (by decide +kernel) (by decide +kernel)
set_option maxRecDepth 20000 in
theorem gL_law_X6_count : GoodIn wsL_law (wsV RL 18 RX6 yX6_count wsX6_count) := goodIn_app (goodIn_of _ (by decide +kernel)) ggL_law_X6_count
set_option maxRecDepth 20000 in
theorem ggL_law_X6_ring : GoodIn wsL_law wsX6_ring := goodIn_r _ [290, 26, 12, 207, 291, 208, 209, 210, 25, 211, 212, 59, 213, 214, 215, 216, 217, 60, 218, 219, 220, 11, 221, 222, 111, 112, 113, 223, 224, 225, 226, 227, 228, 229, 230, 38, 40, 231, 123, 124, 58, 125, 126, 127, 128, 65, 66, 129, 130, 131, 132, 64, 133, 134, 135, 136, 232, 233, 234, 235, 236, 237, 238, 147, 148, 149, 465, 466, 467, 468, 469, 470, 471, 472, 482, 483, 498, 499, 500, 473, 474, 475] (by decide +kernel) (by decide +kernel)
set_option maxRecDepth 20000 in
theorem gL_law_X6_ring : GoodIn wsL_law (wsV RL 37 RX6 yX6_ring wsX6_ring) := goodIn_app (goodIn_of _ (by decide +kernel)) ggL_law_X6_ring
set_option maxRecDepth 20000 in
theorem ggL_law_X6_calls : GoodIn wsL_law wsX6_calls := goodIn_r _ [295, 22, 12, 296, 297, 298, 2, 299, 90, 300, 301, 302, 21, 303, 304, 52, 305, 196, 197, 198, 306, 307, 308, 309, 310, 228, 229, 11, 230, 38, 40, 311, 280, 281, 282, 283, 284, 285, 286, 312, 313, 314, 315, 465, 466, 467, 468, 469, 470, 471, 472, 473, 474, 475, 481] (by decide +kernel) (by decide +kernel)
set_option maxRecDepth 20000 in
theorem gL_law_X6_calls : GoodIn wsL_law (wsV RL 55 RX6 yX6_calls wsX6_calls) := goodIn_app (goodIn_of _ (by decide +kernel)) ggL_law_X6_calls
set_option maxRecDepth 20000 in
theorem ggL_law_L_cell : GoodIn wsL_law wsL_cell := goodIn_r _ [319] (by decide +kernel) (by decide +kernel)
set_option maxRecDepth 20000 in
theorem gL_law_L_cell : GoodIn wsL_law (va_wsS RL 87 yL_cell wsL_cell) := goodIn_app (goodIn_of _ (by decide +kernel)) ggL_law_L_cell
set_option maxRecDepth 20000 in
theorem ggL_law_L_low : GoodIn wsL_law wsL_low := goodIn_r _ [322, 323] (by decide +kernel) (by decide +kernel)
set_option maxRecDepth 20000 in
theorem gL_law_L_low : GoodIn wsL_law (va_wsS RL 41 yL_low wsL_low) := goodIn_app (goodIn_of _ (by decide +kernel)) ggL_law_L_low
set_option maxRecDepth 20000 in
theorem ggL_law_X6_addGuest : GoodIn wsL_law wsX6_addGuest := goodIn_r _ [327, 12, 90, 239, 240, 241, 2, 242, 14, 13, 31, 243, 244, 245, 246, 187, 188, 189, 11, 190, 36, 38, 40, 191, 192, 193, 194, 195, 196, 197, 198, 199, 200, 201, 202, 328, 329, 330, 331, 332, 333, 334, 335, 465, 466, 467, 468, 469, 470, 471, 472, 473, 474, 475] (by decide +kernel) (by decide +kernel)
set_option maxRecDepth 20000 in
theorem gL_law_X6_addGuest : GoodIn wsL_law (wsV RL 71 RX6 yX6_addGuest wsX6_addGuest) := goodIn_app (goodIn_of _ (by decide +kernel)) ggL_law_X6_addGuest
set_option maxRecDepth 20000 in
theorem ggL_law_X6_setValue : GoodIn wsL_law wsX6_setValue := goodIn_r _ [339, 12, 340, 341, 342, 11, 343, 36, 344, 345, 2, 346, 239, 240, 241, 242, 14, 13, 31, 243, 244, 245, 246, 187, 188, 189, 190, 38, 40, 191, 192, 193, 194, 195, 196, 197, 198, 199, 200, 201, 202, 347, 333, 334, 335, 348, 280, 281, 282, 283, 284, 285, 286, 465, 466, 467, 468, 469, 470, 471, 472, 473, 474, 475] (by decide +kernel) (by decide +kernel)
set_option maxRecDepth 20000 in
theorem gL_law_X6_setValue : GoodIn wsL_law (wsV RL 44 RX6 yX6_setValue wsX6_setValue) := goodIn_app (goodIn_of _ (by decide +kernel)) ggL_law_X6_setValue
set_option maxRecDepth 20000 in
theorem ggL_law_L_told : GoodIn wsL_law wsL_told := goodIn_r _ [351, 352, 257, 258, 259, 2, 260, 12, 90, 14, 18, 261, 262, 263, 264, 11, 265, 38, 266, 267, 268, 269, 36, 270, 219, 220, 221, 222, 111, 112, 113, 223, 224, 225, 226, 227, 228, 229, 230, 40, 271, 272, 273, 274, 275, 276, 277, 278, 279, 280, 281, 282, 283, 284, 285, 286, 353, 354, 355, 356, 357, 358, 359, 360, 361, 362, 340, 341, 342, 343, 465, 466, 467, 468, 469, 470, 471, 472, 473, 474, 475, 476, 477, 478, 479, 480] (by decide +kernel) (by decide +kernel)
set_option maxRecDepth 20000 in
theorem gL_law_L_told : GoodIn wsL_law (va_wsS RL 91 yL_told wsL_told) := goodIn_app (goodIn_of _ (by decide +kernel)) ggL_law_L_told
set_option maxRecDepth 20000 in
theorem ggL_law_X6_give : GoodIn wsL_law wsX6_give := goodIn_r _ [378, 12, 340, 341, 342, 11, 343, 36, 344, 345, 2, 346, 239, 240, 241, 242, 14, 13, 31, 243, 244, 245, 246, 187, 188, 189, 190, 38, 40, 191, 192, 193, 194, 195, 196, 197, 198, 199, 200, 201, 202, 379, 380, 381, 382, 465, 466, 467, 468, 469, 470, 471, 472, 473, 474, 475] (by decide +kernel) (by decide +kernel)
set_option maxRecDepth 20000 in
theorem gL_law_X6_give : GoodIn wsL_law (wsV RL 48 RX6 yX6_give wsX6_give) := goodIn_app (goodIn_of _ (by decide +kernel)) ggL_law_X6_give
set_option maxRecDepth 20000 in
theorem ggL_law_X6_putBack : GoodIn wsL_law wsX6_putBack := goodIn_r _ [386, 12, 344, 345, 2, 346, 239, 240, 241, 242, 14, 13, 31, 243, 244, 245, 246, 187, 188, 189, 11, 190, 36, 38, 40, 191, 192, 193, 194, 195, 196, 197, 198, 199, 200, 201, 202, 387, 388, 389, 390, 465, 466, 467, 468, 469, 470, 471, 472, 473, 474, 475] (by decide +kernel) (by decide +kernel)
set_option maxRecDepth 20000 in
theorem gL_law_X6_putBack : GoodIn wsL_law (wsV RL 52 RX6 yX6_putBack wsX6_putBack) := goodIn_app (goodIn_of _ (by decide +kernel)) ggL_law_X6_putBack
set_option maxRecDepth 20000 in
theorem ggL_law_X6_move : GoodIn wsL_law wsX6_move := goodIn_r _ [394, 22, 12, 395, 296, 297, 298, 2, 299, 90, 239, 240, 241, 242, 14, 13, 31, 243, 244, 245, 246, 187, 188, 189, 11, 190, 36, 38, 40, 191, 192, 193, 194, 195, 196, 197, 198, 199, 200, 201, 202, 300, 301, 302, 21, 303, 304, 52, 305, 306, 307, 308, 309, 310, 228, 229, 230, 311, 280, 281, 282, 283, 284, 285, 286, 312, 313, 314, 315, 396, 465, 466, 467, 468, 469, 470, 471, 472, 481, 473, 474, 475] (by decide +kernel) (by decide +kernel)
set_option maxRecDepth 20000 in
theorem gL_law_X6_move : GoodIn wsL_law (wsV RL 58 RX6 yX6_move wsX6_move) := goodIn_app (goodIn_of _ (by decide +kernel)) ggL_law_X6_move
set_option maxRecDepth 20000 in
theorem ggL_law_X6_trim : GoodIn wsL_law wsX6_trim := goodIn_r _ [420, 12, 401, 402, 403, 2, 404, 340, 341, 342, 11, 343, 36, 239, 240, 241, 242, 14, 13, 31, 243, 244, 245, 246, 187, 188, 189, 190, 38, 40, 191, 192, 193, 194, 195, 196, 197, 198, 199, 200, 201, 202, 421, 422, 423, 424, 223, 224, 225, 226, 227, 228, 229, 230, 465, 466, 467, 468, 469, 470, 471, 472, 473, 474, 475] (by decide +kernel) (by decide +kernel)
set_option maxRecDepth 20000 in
theorem gL_law_X6_trim : GoodIn wsL_law (wsV RL 64 RX6 yX6_trim wsX6_trim) := goodIn_app (goodIn_of _ (by decide +kernel)) ggL_law_X6_trim
set_option maxRecDepth 20000 in
theorem ggL_law_X6_crumb : GoodIn wsL_law wsX6_crumb := goodIn_r _ [356, 12, 357, 465, 466, 467, 468, 469, 470, 471, 472, 473, 474, 475] (by decide +kernel) (by decide +kernel)
set_option maxRecDepth 20000 in
theorem gL_law_X6_crumb : GoodIn wsL_law (wsV RL 8 RX6 yX6_crumb wsX6_crumb) := goodIn_app (goodIn_of _ (by decide +kernel)) ggL_law_X6_crumb
set_option maxRecDepth 20000 in
theorem ggL_law_X6_read : GoodIn wsL_law wsX6_read := goodIn_r _ [446, 12, 18, 447, 340, 341, 342, 11, 343, 36, 448, 449, 450, 17, 451, 47, 48, 44, 45, 452, 453, 454, 455, 46, 456, 457, 458, 459, 460, 461, 462, 463, 239, 240, 241, 2, 242, 14, 13, 31, 243, 244, 245, 246, 187, 188, 189, 190, 38, 40, 191, 192, 193, 194, 195, 196, 197, 198, 199, 200, 201, 202, 464, 348, 280, 281, 282, 283, 284, 285, 286, 465, 466, 467, 468, 469, 470, 471, 472, 476, 477, 478, 479, 480, 473, 474, 475] (by decide +kernel) (by decide +kernel)
set_option maxRecDepth 20000 in
theorem gL_law_X6_read : GoodIn wsL_law (wsV RL 102 RX6 yX6_read wsX6_read) := goodIn_app (goodIn_of _ (by decide +kernel)) ggL_law_X6_read
theorem dL_law_0 : decode cL_law 0 = .ok (.new 9, 3) := by decide +kernel
theorem dL_law_3 : decode cL_law 3 = .ok (.dup, 1) := by decide +kernel
theorem dL_law_4 : decode cL_law 4 = .ok (.invokespecial 80, 3) := by decide +kernel
theorem dL_law_7 : decode cL_law 7 = .ok (.astore_n 1, 1) := by decide +kernel
theorem dL_law_8 : decode cL_law 8 = .ok (.aload_n 1, 1) := by decide +kernel
theorem dL_law_9 : decode cL_law 9 = .ok (.iconst 0, 1) := by decide +kernel
theorem dL_law_10 : decode cL_law 10 = .ok (.invokevirtual 77, 3) := by decide +kernel
theorem dL_law_13 : decode cL_law 13 = .ok (.bipush (-2), 2) := by decide +kernel
theorem dL_law_15 : decode cL_law 15 = .ok (.if_icmp .ne 70, 3) := by decide +kernel
theorem dL_law_18 : decode cL_law 18 = .ok (.aload_n 1, 1) := by decide +kernel
theorem dL_law_19 : decode cL_law 19 = .ok (.iconst 0, 1) := by decide +kernel
theorem dL_law_20 : decode cL_law 20 = .ok (.invokevirtual 81, 3) := by decide +kernel
theorem dL_law_23 : decode cL_law 23 = .ok (.bipush (-2), 2) := by decide +kernel
theorem dL_law_25 : decode cL_law 25 = .ok (.if_icmp .ne 60, 3) := by decide +kernel
theorem dL_law_28 : decode cL_law 28 = .ok (.aload_n 1, 1) := by decide +kernel
theorem dL_law_29 : decode cL_law 29 = .ok (.invokevirtual 84, 3) := by decide +kernel
theorem dL_law_32 : decode cL_law 32 = .ok (.bipush (-2), 2) := by decide +kernel
theorem dL_law_34 : decode cL_law 34 = .ok (.if_icmp .ne 51, 3) := by decide +kernel
theorem dL_law_37 : decode cL_law 37 = .ok (.aload_n 1, 1) := by decide +kernel
theorem dL_law_38 : decode cL_law 38 = .ok (.invokevirtual 67, 3) := by decide +kernel
theorem dL_law_41 : decode cL_law 41 = .ok (.bipush (-2), 2) := by decide +kernel
theorem dL_law_43 : decode cL_law 43 = .ok (.if_icmp .ne 42, 3) := by decide +kernel
theorem dL_law_46 : decode cL_law 46 = .ok (.aload_n 1, 1) := by decide +kernel
theorem dL_law_47 : decode cL_law 47 = .ok (.iconst 1, 1) := by decide +kernel
theorem dL_law_48 : decode cL_law 48 = .ok (.invokevirtual 18, 3) := by decide +kernel
theorem dL_law_51 : decode cL_law 51 = .ok (.bipush 24, 2) := by decide +kernel
theorem dL_law_53 : decode cL_law 53 = .ok (.if_icmp .ne 32, 3) := by decide +kernel
theorem dL_law_56 : decode cL_law 56 = .ok (.aload_n 1, 1) := by decide +kernel
theorem dL_law_57 : decode cL_law 57 = .ok (.iconst 0, 1) := by decide +kernel
theorem dL_law_58 : decode cL_law 58 = .ok (.invokevirtual 37, 3) := by decide +kernel
theorem dL_law_61 : decode cL_law 61 = .ok (.bipush (-9), 2) := by decide +kernel
theorem dL_law_63 : decode cL_law 63 = .ok (.if_icmp .ne 22, 3) := by decide +kernel
theorem dL_law_66 : decode cL_law 66 = .ok (.aload_n 1, 1) := by decide +kernel
theorem dL_law_67 : decode cL_law 67 = .ok (.iconst 5, 1) := by decide +kernel
theorem dL_law_68 : decode cL_law 68 = .ok (.iconst 1, 1) := by decide +kernel
theorem dL_law_69 : decode cL_law 69 = .ok (.invokevirtual 55, 3) := by decide +kernel
theorem dL_law_72 : decode cL_law 72 = .ok (.iconst (-1), 1) := by decide +kernel
theorem dL_law_73 : decode cL_law 73 = .ok (.if_icmp .ne 12, 3) := by decide +kernel
theorem dL_law_76 : decode cL_law 76 = .ok (.aload_n 1, 1) := by decide +kernel
theorem dL_law_77 : decode cL_law 77 = .ok (.iconst 4, 1) := by decide +kernel
theorem dL_law_78 : decode cL_law 78 = .ok (.invokevirtual 18, 3) := by decide +kernel
theorem dL_law_81 : decode cL_law 81 = .ok (.iconst 1, 1) := by decide +kernel
theorem dL_law_82 : decode cL_law 82 = .ok (.if_icmp .eq 5, 3) := by decide +kernel
theorem dL_law_85 : decode cL_law 85 = .ok (.iconst 0, 1) := by decide +kernel
theorem dL_law_86 : decode cL_law 86 = .ok (.ireturn, 1) := by decide +kernel
theorem dL_law_87 : decode cL_law 87 = .ok (.iconst 1, 1) := by decide +kernel
theorem dL_law_88 : decode cL_law 88 = .ok (.aload_n 0, 1) := by decide +kernel
theorem dL_law_89 : decode cL_law 89 = .ok (.iconst 0, 1) := by decide +kernel
theorem dL_law_90 : decode cL_law 90 = .ok (.invokestatic 87, 3) := by decide +kernel
theorem dL_law_93 : decode cL_law 93 = .ok (.iconst 4, 1) := by decide +kernel
theorem dL_law_94 : decode cL_law 94 = .ok (.invokestatic 41, 3) := by decide +kernel
theorem dL_law_97 : decode cL_law 97 = .ok (.iadd, 1) := by decide +kernel
theorem dL_law_98 : decode cL_law 98 = .ok (.istore_n 2, 1) := by decide +kernel
theorem dL_law_99 : decode cL_law 99 = .ok (.iconst 0, 1) := by decide +kernel
theorem dL_law_100 : decode cL_law 100 = .ok (.istore_n 3, 1) := by decide +kernel
theorem dL_law_101 : decode cL_law 101 = .ok (.iload_n 3, 1) := by decide +kernel
theorem dL_law_102 : decode cL_law 102 = .ok (.iload_n 2, 1) := by decide +kernel
theorem dL_law_103 : decode cL_law 103 = .ok (.if_icmp .ge 83, 3) := by decide +kernel
theorem dL_law_106 : decode cL_law 106 = .ok (.aload_n 1, 1) := by decide +kernel
theorem dL_law_107 : decode cL_law 107 = .ok (.invokevirtual 71, 3) := by decide +kernel
theorem dL_law_110 : decode cL_law 110 = .ok (.iload_n 3, 1) := by decide +kernel
theorem dL_law_111 : decode cL_law 111 = .ok (.if_icmp .eq 5, 3) := by decide +kernel
theorem dL_law_114 : decode cL_law 114 = .ok (.iconst 0, 1) := by decide +kernel
theorem dL_law_115 : decode cL_law 115 = .ok (.ireturn, 1) := by decide +kernel
theorem dL_law_116 : decode cL_law 116 = .ok (.iconst 0, 1) := by decide +kernel
theorem dL_law_117 : decode cL_law 117 = .ok (.istore 4, 2) := by decide +kernel
theorem dL_law_119 : decode cL_law 119 = .ok (.iload 4, 2) := by decide +kernel
theorem dL_law_121 : decode cL_law 121 = .ok (.iconst 4, 1) := by decide +kernel
theorem dL_law_122 : decode cL_law 122 = .ok (.if_icmp .ge 58, 3) := by decide +kernel
theorem dL_law_125 : decode cL_law 125 = .ok (.aload_n 0, 1) := by decide +kernel
theorem dL_law_126 : decode cL_law 126 = .ok (.iconst 1, 1) := by decide +kernel
theorem dL_law_127 : decode cL_law 127 = .ok (.iconst 4, 1) := by decide +kernel
theorem dL_law_128 : decode cL_law 128 = .ok (.iload_n 3, 1) := by decide +kernel
theorem dL_law_129 : decode cL_law 129 = .ok (.imul, 1) := by decide +kernel
theorem dL_law_130 : decode cL_law 130 = .ok (.iadd, 1) := by decide +kernel
theorem dL_law_131 : decode cL_law 131 = .ok (.iload 4, 2) := by decide +kernel
theorem dL_law_133 : decode cL_law 133 = .ok (.iadd, 1) := by decide +kernel
theorem dL_law_134 : decode cL_law 134 = .ok (.invokestatic 87, 3) := by decide +kernel
theorem dL_law_137 : decode cL_law 137 = .ok (.istore 5, 2) := by decide +kernel
theorem dL_law_139 : decode cL_law 139 = .ok (.aload_n 1, 1) := by decide +kernel
theorem dL_law_140 : decode cL_law 140 = .ok (.iload_n 3, 1) := by decide +kernel
theorem dL_law_141 : decode cL_law 141 = .ok (.iload 5, 2) := by decide +kernel
theorem dL_law_143 : decode cL_law 143 = .ok (.bipush 12, 2) := by decide +kernel
theorem dL_law_145 : decode cL_law 145 = .ok (.invokestatic 41, 3) := by decide +kernel
theorem dL_law_148 : decode cL_law 148 = .ok (.bipush 12, 2) := by decide +kernel
theorem dL_law_150 : decode cL_law 150 = .ok (.iload 5, 2) := by decide +kernel
theorem dL_law_152 : decode cL_law 152 = .ok (.iconst 4, 1) := by decide +kernel
theorem dL_law_153 : decode cL_law 153 = .ok (.ishr, 1) := by decide +kernel
theorem dL_law_154 : decode cL_law 154 = .ok (.bipush 12, 2) := by decide +kernel
theorem dL_law_156 : decode cL_law 156 = .ok (.invokestatic 41, 3) := by decide +kernel
theorem dL_law_159 : decode cL_law 159 = .ok (.iadd, 1) := by decide +kernel
theorem dL_law_160 : decode cL_law 160 = .ok (.iload 5, 2) := by decide +kernel
theorem dL_law_162 : decode cL_law 162 = .ok (.bipush 8, 2) := by decide +kernel
theorem dL_law_164 : decode cL_law 164 = .ok (.ishr, 1) := by decide +kernel
theorem dL_law_165 : decode cL_law 165 = .ok (.bipush 10, 2) := by decide +kernel
theorem dL_law_167 : decode cL_law 167 = .ok (.invokestatic 41, 3) := by decide +kernel
theorem dL_law_170 : decode cL_law 170 = .ok (.invokevirtual 44, 3) := by decide +kernel
theorem dL_law_173 : decode cL_law 173 = .ok (.pop, 1) := by decide +kernel
theorem dL_law_174 : decode cL_law 174 = .ok (.iinc 4 1, 3) := by decide +kernel
theorem dL_law_177 : decode cL_law 177 = .ok (.goto (-58), 3) := by decide +kernel
theorem dL_law_180 : decode cL_law 180 = .ok (.iinc 3 1, 3) := by decide +kernel
theorem dL_law_183 : decode cL_law 183 = .ok (.goto (-82), 3) := by decide +kernel
theorem dL_law_186 : decode cL_law 186 = .ok (.iconst 0, 1) := by decide +kernel
theorem dL_law_187 : decode cL_law 187 = .ok (.istore_n 3, 1) := by decide +kernel
theorem dL_law_188 : decode cL_law 188 = .ok (.iload_n 3, 1) := by decide +kernel
theorem dL_law_189 : decode cL_law 189 = .ok (.bipush 36, 2) := by decide +kernel
theorem dL_law_191 : decode cL_law 191 = .ok (.if_icmp .ge 121, 3) := by decide +kernel
theorem dL_law_194 : decode cL_law 194 = .ok (.aload_n 1, 1) := by decide +kernel
theorem dL_law_195 : decode cL_law 195 = .ok (.invokestatic 91, 3) := by decide +kernel
theorem dL_law_198 : decode cL_law 198 = .ok (.lstore 4, 2) := by decide +kernel
theorem dL_law_200 : decode cL_law 200 = .ok (.aload_n 1, 1) := by decide +kernel
theorem dL_law_201 : decode cL_law 201 = .ok (.bipush 6, 2) := by decide +kernel
theorem dL_law_203 : decode cL_law 203 = .ok (.invokevirtual 18, 3) := by decide +kernel
theorem dL_law_206 : decode cL_law 206 = .ok (.istore 6, 2) := by decide +kernel
theorem dL_law_208 : decode cL_law 208 = .ok (.aload_n 1, 1) := by decide +kernel
theorem dL_law_209 : decode cL_law 209 = .ok (.aload_n 0, 1) := by decide +kernel
theorem dL_law_210 : decode cL_law 210 = .ok (.bipush 17, 2) := by decide +kernel
theorem dL_law_212 : decode cL_law 212 = .ok (.iconst 2, 1) := by decide +kernel
theorem dL_law_213 : decode cL_law 213 = .ok (.iload_n 3, 1) := by decide +kernel
theorem dL_law_214 : decode cL_law 214 = .ok (.imul, 1) := by decide +kernel
theorem dL_law_215 : decode cL_law 215 = .ok (.iadd, 1) := by decide +kernel
theorem dL_law_216 : decode cL_law 216 = .ok (.invokestatic 87, 3) := by decide +kernel
theorem dL_law_219 : decode cL_law 219 = .ok (.aload_n 0, 1) := by decide +kernel
theorem dL_law_220 : decode cL_law 220 = .ok (.bipush 18, 2) := by decide +kernel
theorem dL_law_222 : decode cL_law 222 = .ok (.iconst 2, 1) := by decide +kernel
theorem dL_law_223 : decode cL_law 223 = .ok (.iload_n 3, 1) := by decide +kernel
theorem dL_law_224 : decode cL_law 224 = .ok (.imul, 1) := by decide +kernel
theorem dL_law_225 : decode cL_law 225 = .ok (.iadd, 1) := by decide +kernel
theorem dL_law_226 : decode cL_law 226 = .ok (.invokestatic 87, 3) := by decide +kernel
theorem dL_law_229 : decode cL_law 229 = .ok (.invokestatic 95, 3) := by decide +kernel
theorem dL_law_232 : decode cL_law 232 = .ok (.ifCond .eq 37, 3) := by decide +kernel
theorem dL_law_235 : decode cL_law 235 = .ok (.aload_n 1, 1) := by decide +kernel
theorem dL_law_236 : decode cL_law 236 = .ok (.invokestatic 99, 3) := by decide +kernel
theorem dL_law_239 : decode cL_law 239 = .ok (.ifCond .eq 30, 3) := by decide +kernel
theorem dL_law_242 : decode cL_law 242 = .ok (.aload_n 1, 1) := by decide +kernel
theorem dL_law_243 : decode cL_law 243 = .ok (.bipush 6, 2) := by decide +kernel
theorem dL_law_245 : decode cL_law 245 = .ok (.invokevirtual 18, 3) := by decide +kernel
theorem dL_law_248 : decode cL_law 248 = .ok (.iload 6, 2) := by decide +kernel
theorem dL_law_250 : decode cL_law 250 = .ok (.if_icmp .ne 21, 3) := by decide +kernel
theorem dL_law_253 : decode cL_law 253 = .ok (.iload 6, 2) := by decide +kernel
theorem dL_law_255 : decode cL_law 255 = .ok (.iconst 5, 1) := by decide +kernel
theorem dL_law_256 : decode cL_law 256 = .ok (.if_icmp .ge 15, 3) := by decide +kernel
theorem dL_law_259 : decode cL_law 259 = .ok (.aload_n 1, 1) := by decide +kernel
theorem dL_law_260 : decode cL_law 260 = .ok (.invokestatic 91, 3) := by decide +kernel
theorem dL_law_263 : decode cL_law 263 = .ok (.lload 4, 2) := by decide +kernel
theorem dL_law_265 : decode cL_law 265 = .ok (.lcmp, 1) := by decide +kernel
theorem dL_law_266 : decode cL_law 266 = .ok (.ifCond .eq 5, 3) := by decide +kernel
theorem dL_law_269 : decode cL_law 269 = .ok (.iconst 0, 1) := by decide +kernel
theorem dL_law_270 : decode cL_law 270 = .ok (.ireturn, 1) := by decide +kernel
theorem dL_law_271 : decode cL_law 271 = .ok (.iload_n 3, 1) := by decide +kernel
theorem dL_law_272 : decode cL_law 272 = .ok (.iconst 3, 1) := by decide +kernel
theorem dL_law_273 : decode cL_law 273 = .ok (.irem, 1) := by decide +kernel
theorem dL_law_274 : decode cL_law 274 = .ok (.ifCond .ne 32, 3) := by decide +kernel
theorem dL_law_277 : decode cL_law 277 = .ok (.aload_n 1, 1) := by decide +kernel
theorem dL_law_278 : decode cL_law 278 = .ok (.invokestatic 91, 3) := by decide +kernel
theorem dL_law_281 : decode cL_law 281 = .ok (.lload 4, 2) := by decide +kernel
theorem dL_law_283 : decode cL_law 283 = .ok (.lcmp, 1) := by decide +kernel
theorem dL_law_284 : decode cL_law 284 = .ok (.ifCond .eq 22, 3) := by decide +kernel
theorem dL_law_287 : decode cL_law 287 = .ok (.aload_n 1, 1) := by decide +kernel
theorem dL_law_288 : decode cL_law 288 = .ok (.invokevirtual 84, 3) := by decide +kernel
theorem dL_law_291 : decode cL_law 291 = .ok (.ifCond .lt 13, 3) := by decide +kernel
theorem dL_law_294 : decode cL_law 294 = .ok (.aload_n 1, 1) := by decide +kernel
theorem dL_law_295 : decode cL_law 295 = .ok (.invokestatic 91, 3) := by decide +kernel
theorem dL_law_298 : decode cL_law 298 = .ok (.lload 4, 2) := by decide +kernel
theorem dL_law_300 : decode cL_law 300 = .ok (.lcmp, 1) := by decide +kernel
theorem dL_law_301 : decode cL_law 301 = .ok (.ifCond .eq 5, 3) := by decide +kernel
theorem dL_law_304 : decode cL_law 304 = .ok (.iconst 0, 1) := by decide +kernel
theorem dL_law_305 : decode cL_law 305 = .ok (.ireturn, 1) := by decide +kernel
theorem dL_law_306 : decode cL_law 306 = .ok (.iinc 3 1, 3) := by decide +kernel
theorem dL_law_309 : decode cL_law 309 = .ok (.goto (-121), 3) := by decide +kernel
theorem dL_law_312 : decode cL_law 312 = .ok (.aload_n 1, 1) := by decide +kernel
theorem dL_law_313 : decode cL_law 313 = .ok (.invokestatic 91, 3) := by decide +kernel
theorem dL_law_316 : decode cL_law 316 = .ok (.lstore_n 3, 1) := by decide +kernel
theorem dL_law_317 : decode cL_law 317 = .ok (.aload_n 1, 1) := by decide +kernel
theorem dL_law_318 : decode cL_law 318 = .ok (.iconst 0, 1) := by decide +kernel
theorem dL_law_319 : decode cL_law 319 = .ok (.iconst 5, 1) := by decide +kernel
theorem dL_law_320 : decode cL_law 320 = .ok (.iconst 4, 1) := by decide +kernel
theorem dL_law_321 : decode cL_law 321 = .ok (.iconst 1, 1) := by decide +kernel
theorem dL_law_322 : decode cL_law 322 = .ok (.invokevirtual 44, 3) := by decide +kernel
theorem dL_law_325 : decode cL_law 325 = .ok (.iconst (-1), 1) := by decide +kernel
theorem dL_law_326 : decode cL_law 326 = .ok (.if_icmp .ne 89, 3) := by decide +kernel
theorem dL_law_329 : decode cL_law 329 = .ok (.aload_n 1, 1) := by decide +kernel
theorem dL_law_330 : decode cL_law 330 = .ok (.iconst 4, 1) := by decide +kernel
theorem dL_law_331 : decode cL_law 331 = .ok (.iconst 0, 1) := by decide +kernel
theorem dL_law_332 : decode cL_law 332 = .ok (.iconst 0, 1) := by decide +kernel
theorem dL_law_333 : decode cL_law 333 = .ok (.invokevirtual 48, 3) := by decide +kernel
theorem dL_law_336 : decode cL_law 336 = .ok (.iconst (-1), 1) := by decide +kernel
theorem dL_law_337 : decode cL_law 337 = .ok (.if_icmp .ne 78, 3) := by decide +kernel
theorem dL_law_340 : decode cL_law 340 = .ok (.aload_n 1, 1) := by decide +kernel
theorem dL_law_341 : decode cL_law 341 = .ok (.iconst 0, 1) := by decide +kernel
theorem dL_law_342 : decode cL_law 342 = .ok (.bipush 24, 2) := by decide +kernel
theorem dL_law_344 : decode cL_law 344 = .ok (.invokevirtual 52, 3) := by decide +kernel
theorem dL_law_347 : decode cL_law 347 = .ok (.iconst (-1), 1) := by decide +kernel
theorem dL_law_348 : decode cL_law 348 = .ok (.if_icmp .ne 67, 3) := by decide +kernel
theorem dL_law_351 : decode cL_law 351 = .ok (.aload_n 1, 1) := by decide +kernel
theorem dL_law_352 : decode cL_law 352 = .ok (.bipush 101, 2) := by decide +kernel
theorem dL_law_354 : decode cL_law 354 = .ok (.iconst 1, 1) := by decide +kernel
theorem dL_law_355 : decode cL_law 355 = .ok (.invokevirtual 58, 3) := by decide +kernel
theorem dL_law_358 : decode cL_law 358 = .ok (.iconst (-1), 1) := by decide +kernel
theorem dL_law_359 : decode cL_law 359 = .ok (.if_icmp .ne 56, 3) := by decide +kernel
theorem dL_law_362 : decode cL_law 362 = .ok (.aload_n 1, 1) := by decide +kernel
theorem dL_law_363 : decode cL_law 363 = .ok (.iconst 5, 1) := by decide +kernel
theorem dL_law_364 : decode cL_law 364 = .ok (.iconst 0, 1) := by decide +kernel
theorem dL_law_365 : decode cL_law 365 = .ok (.invokevirtual 58, 3) := by decide +kernel
theorem dL_law_368 : decode cL_law 368 = .ok (.iconst (-1), 1) := by decide +kernel
theorem dL_law_369 : decode cL_law 369 = .ok (.if_icmp .ne 46, 3) := by decide +kernel
theorem dL_law_372 : decode cL_law 372 = .ok (.aload_n 1, 1) := by decide +kernel
theorem dL_law_373 : decode cL_law 373 = .ok (.iconst 0, 1) := by decide +kernel
theorem dL_law_374 : decode cL_law 374 = .ok (.iconst 0, 1) := by decide +kernel
theorem dL_law_375 : decode cL_law 375 = .ok (.invokevirtual 64, 3) := by decide +kernel
theorem dL_law_378 : decode cL_law 378 = .ok (.iconst (-1), 1) := by decide +kernel
theorem dL_law_379 : decode cL_law 379 = .ok (.if_icmp .ne 36, 3) := by decide +kernel
theorem dL_law_382 : decode cL_law 382 = .ok (.aload_n 1, 1) := by decide +kernel
theorem dL_law_383 : decode cL_law 383 = .ok (.bipush 6, 2) := by decide +kernel
theorem dL_law_385 : decode cL_law 385 = .ok (.invokevirtual 77, 3) := by decide +kernel
theorem dL_law_388 : decode cL_law 388 = .ok (.iconst (-1), 1) := by decide +kernel
theorem dL_law_389 : decode cL_law 389 = .ok (.if_icmp .ne 26, 3) := by decide +kernel
theorem dL_law_392 : decode cL_law 392 = .ok (.aload_n 1, 1) := by decide +kernel
theorem dL_law_393 : decode cL_law 393 = .ok (.bipush 24, 2) := by decide +kernel
theorem dL_law_395 : decode cL_law 395 = .ok (.invokevirtual 8, 3) := by decide +kernel
theorem dL_law_398 : decode cL_law 398 = .ok (.iconst (-1), 1) := by decide +kernel
theorem dL_law_399 : decode cL_law 399 = .ok (.if_icmp .ne 16, 3) := by decide +kernel
theorem dL_law_402 : decode cL_law 402 = .ok (.aload_n 1, 1) := by decide +kernel
theorem dL_law_403 : decode cL_law 403 = .ok (.iconst 4, 1) := by decide +kernel
theorem dL_law_404 : decode cL_law 404 = .ok (.invokevirtual 102, 3) := by decide +kernel
theorem dL_law_407 : decode cL_law 407 = .ok (.iconst (-1), 1) := by decide +kernel
theorem dL_law_408 : decode cL_law 408 = .ok (.if_icmp .ne 7, 3) := by decide +kernel
theorem dL_law_411 : decode cL_law 411 = .ok (.iconst 1, 1) := by decide +kernel
theorem dL_law_412 : decode cL_law 412 = .ok (.goto 4, 3) := by decide +kernel
theorem dL_law_415 : decode cL_law 415 = .ok (.iconst 0, 1) := by decide +kernel
theorem dL_law_416 : decode cL_law 416 = .ok (.istore 5, 2) := by decide +kernel
theorem dL_law_418 : decode cL_law 418 = .ok (.iload 5, 2) := by decide +kernel
theorem dL_law_420 : decode cL_law 420 = .ok (.ifCond .eq 16, 3) := by decide +kernel
theorem dL_law_423 : decode cL_law 423 = .ok (.aload_n 1, 1) := by decide +kernel
theorem dL_law_424 : decode cL_law 424 = .ok (.invokestatic 91, 3) := by decide +kernel
theorem dL_law_427 : decode cL_law 427 = .ok (.lload_n 3, 1) := by decide +kernel
theorem dL_law_428 : decode cL_law 428 = .ok (.lcmp, 1) := by decide +kernel
theorem dL_law_429 : decode cL_law 429 = .ok (.ifCond .ne 7, 3) := by decide +kernel
theorem dL_law_432 : decode cL_law 432 = .ok (.iconst 1, 1) := by decide +kernel
theorem dL_law_433 : decode cL_law 433 = .ok (.goto 4, 3) := by decide +kernel
theorem dL_law_436 : decode cL_law 436 = .ok (.iconst 0, 1) := by decide +kernel
theorem dL_law_437 : decode cL_law 437 = .ok (.ireturn, 1) := by decide +kernel
abbrev vwCl : List vw_C := [(RX0, TX0, 3), (RX1, TX1, 14), (RX2, TX2, 1), (RX3, TX3, 2), (RX4, TX4, 3), (RX5, TX5, 5), (RX6, TX6, 8)]

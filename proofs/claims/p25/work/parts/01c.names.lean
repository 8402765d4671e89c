theorem dX1_firstEnvious_39 : decode cX1_firstEnvious 39 = .ok (.iinc 1 1, 3) := by decide +kernel
theorem dX1_firstEnvious_42 : decode cX1_firstEnvious 42 = .ok (.goto (-40), 3) := by decide +kernel
theorem dX1_firstEnvious_45 : decode cX1_firstEnvious 45 = .ok (.aload_n 0, 1) := by decide +kernel
theorem dX1_firstEnvious_46 : decode cX1_firstEnvious 46 = .ok (.getfield 34, 3) := by decide +kernel
theorem dX1_firstEnvious_49 : decode cX1_firstEnvious 49 = .ok (.ireturn, 1) := by decide +kernel
theorem dX1_countQuiet_0 : decode cX1_countQuiet 0 = .ok (.aload_n 0, 1) := by decide +kernel
theorem dX1_countQuiet_1 : decode cX1_countQuiet 1 = .ok (.getfield 25, 3) := by decide +kernel
theorem dX1_countQuiet_4 : decode cX1_countQuiet 4 = .ok (.ifCond .ne 26, 3) := by decide +kernel
theorem dX1_countQuiet_7 : decode cX1_countQuiet 7 = .ok (.aload_n 0, 1) := by decide +kernel
theorem dX1_countQuiet_8 : decode cX1_countQuiet 8 = .ok (.aload_n 0, 1) := by decide +kernel
theorem dX1_countQuiet_9 : decode cX1_countQuiet 9 = .ok (.getfield 40, 3) := by decide +kernel
theorem dX1_countQuiet_12 : decode cX1_countQuiet 12 = .ok (.getfield 108, 3) := by decide +kernel
theorem dX1_countQuiet_15 : decode cX1_countQuiet 15 = .ok (.iconst 0, 1) := by decide +kernel
theorem dX1_countQuiet_16 : decode cX1_countQuiet 16 = .ok (.iaload, 1) := by decide +kernel
theorem dX1_countQuiet_17 : decode cX1_countQuiet 17 = .ok (.putfield 28, 3) := by decide +kernel
theorem dX1_countQuiet_20 : decode cX1_countQuiet 20 = .ok (.aload_n 0, 1) := by decide +kernel
theorem dX1_countQuiet_21 : decode cX1_countQuiet 21 = .ok (.aload_n 0, 1) := by decide +kernel
theorem dX1_countQuiet_22 : decode cX1_countQuiet 22 = .ok (.getfield 44, 3) := by decide +kernel
theorem dX1_countQuiet_25 : decode cX1_countQuiet 25 = .ok (.iconst 1, 1) := by decide +kernel
theorem dX1_countQuiet_26 : decode cX1_countQuiet 26 = .ok (.iaload, 1) := by decide +kernel
theorem dX1_countQuiet_27 : decode cX1_countQuiet 27 = .ok (.putfield 31, 3) := by decide +kernel
theorem dX1_countQuiet_30 : decode cX1_countQuiet 30 = .ok (.aload_n 0, 1) := by decide +kernel
theorem dX1_countQuiet_31 : decode cX1_countQuiet 31 = .ok (.dup, 1) := by decide +kernel
theorem dX1_countQuiet_32 : decode cX1_countQuiet 32 = .ok (.getfield 25, 3) := by decide +kernel
theorem dX1_countQuiet_35 : decode cX1_countQuiet 35 = .ok (.iconst 1, 1) := by decide +kernel
theorem dX1_countQuiet_36 : decode cX1_countQuiet 36 = .ok (.iadd, 1) := by decide +kernel
theorem dX1_countQuiet_37 : decode cX1_countQuiet 37 = .ok (.putfield 25, 3) := by decide +kernel
theorem dX1_countQuiet_40 : decode cX1_countQuiet 40 = .ok (.return_, 1) := by decide +kernel
theorem dX2_init_0 : decode cX2_init 0 = .ok (.aload_n 0, 1) := by decide +kernel
theorem dX2_init_1 : decode cX2_init 1 = .ok (.invokespecial 3, 3) := by decide +kernel
theorem dX2_init_4 : decode cX2_init 4 = .ok (.aload_n 0, 1) := by decide +kernel
theorem dX2_init_5 : decode cX2_init 5 = .ok (.bipush 24, 2) := by decide +kernel
theorem dX2_init_7 : decode cX2_init 7 = .ok (.newarray .int, 2) := by decide +kernel
theorem dX2_init_9 : decode cX2_init 9 = .ok (.putfield 9, 3) := by decide +kernel
theorem dX2_init_12 : decode cX2_init 12 = .ok (.return_, 1) := by decide +kernel
set_option maxRecDepth 20000 in
theorem ggX2_pass_X2_firstCaller : GoodIn wsX2_pass wsX2_firstCaller := goodIn_r _ [10, 11, 12, 13, 14, 15, 16, 17, 18, 19, 20, 21, 22, 23, 24, 25, 26, 31, 32, 33] (by decide +kernel) (by decide +kernel)
set_option maxRecDepth 20000 in
theorem gX2_pass_X2_firstCaller : GoodIn wsX2_pass (va_wsS RX2 24 yX2_firstCaller wsX2_firstCaller) := goodIn_app (goodIn_of _ (by decide +kernel)) ggX2_pass_X2_firstCaller
set_option maxRecDepth 20000 in
theorem ggX2_pass_X2_giveTo : GoodIn wsX2_pass wsX2_giveTo := goodIn_r _ [30, 2, 34] (by decide +kernel) (by decide +kernel)
set_option maxRecDepth 20000 in
theorem gX2_pass_X2_giveTo : GoodIn wsX2_pass (wsV RX2 28 RX2 yX2_giveTo wsX2_giveTo) := goodIn_app (goodIn_of _ (by decide +kernel)) ggX2_pass_X2_giveTo
theorem dX2_pass_0 : decode cX2_pass 0 = .ok (.aload_n 1, 1) := by decide +kernel
theorem dX2_pass_1 : decode cX2_pass 1 = .ok (.getfield 15, 3) := by decide +kernel
theorem dX2_pass_4 : decode cX2_pass 4 = .ok (.iconst 0, 1) := by decide +kernel
theorem dX2_pass_5 : decode cX2_pass 5 = .ok (.aload_n 0, 1) := by decide +kernel
theorem dX2_pass_6 : decode cX2_pass 6 = .ok (.getfield 9, 3) := by decide +kernel
theorem dX2_pass_9 : decode cX2_pass 9 = .ok (.iconst 0, 1) := by decide +kernel
theorem dX2_pass_10 : decode cX2_pass 10 = .ok (.bipush 24, 2) := by decide +kernel
theorem dX2_pass_12 : decode cX2_pass 12 = .ok (.invokestatic 18, 3) := by decide +kernel
theorem dX2_pass_15 : decode cX2_pass 15 = .ok (.iload_n 3, 1) := by decide +kernel
theorem dX2_pass_16 : decode cX2_pass 16 = .ok (.istore 4, 2) := by decide +kernel
theorem dX2_pass_18 : decode cX2_pass 18 = .ok (.iconst 0, 1) := by decide +kernel
theorem dX2_pass_19 : decode cX2_pass 19 = .ok (.istore 5, 2) := by decide +kernel
theorem dX2_pass_21 : decode cX2_pass 21 = .ok (.iconst 0, 1) := by decide +kernel
theorem dX2_pass_22 : decode cX2_pass 22 = .ok (.istore 6, 2) := by decide +kernel
theorem dX2_pass_24 : decode cX2_pass 24 = .ok (.iconst 0, 1) := by decide +kernel
theorem dX2_pass_25 : decode cX2_pass 25 = .ok (.istore 7, 2) := by decide +kernel
theorem dX2_pass_27 : decode cX2_pass 27 = .ok (.iload 7, 2) := by decide +kernel
theorem dX2_pass_29 : decode cX2_pass 29 = .ok (.bipush 24, 2) := by decide +kernel
theorem dX2_pass_31 : decode cX2_pass 31 = .ok (.if_icmp .ge 77, 3) := by decide +kernel
theorem dX2_pass_34 : decode cX2_pass 34 = .ok (.iload 4, 2) := by decide +kernel
theorem dX2_pass_36 : decode cX2_pass 36 = .ok (.ifCond .eq 72, 3) := by decide +kernel
theorem dX2_pass_39 : decode cX2_pass 39 = .ok (.aload_n 0, 1) := by decide +kernel
theorem dX2_pass_40 : decode cX2_pass 40 = .ok (.getfield 9, 3) := by decide +kernel
theorem dX2_pass_43 : decode cX2_pass 43 = .ok (.iload 7, 2) := by decide +kernel
theorem dX2_pass_45 : decode cX2_pass 45 = .ok (.iaload, 1) := by decide +kernel
theorem dX2_pass_46 : decode cX2_pass 46 = .ok (.iconst (-1), 1) := by decide +kernel
theorem dX2_pass_47 : decode cX2_pass 47 = .ok (.if_icmp .eq 6, 3) := by decide +kernel
theorem dX2_pass_50 : decode cX2_pass 50 = .ok (.goto 52, 3) := by decide +kernel
theorem dX2_pass_53 : decode cX2_pass 53 = .ok (.aload_n 1, 1) := by decide +kernel
theorem dX2_pass_54 : decode cX2_pass 54 = .ok (.iload_n 2, 1) := by decide +kernel
theorem dX2_pass_55 : decode cX2_pass 55 = .ok (.iload 4, 2) := by decide +kernel
theorem dX2_pass_57 : decode cX2_pass 57 = .ok (.iload 5, 2) := by decide +kernel
theorem dX2_pass_59 : decode cX2_pass 59 = .ok (.iload 7, 2) := by decide +kernel
theorem dX2_pass_61 : decode cX2_pass 61 = .ok (.invokestatic 24, 3) := by decide +kernel
theorem dX2_pass_64 : decode cX2_pass 64 = .ok (.istore 8, 2) := by decide +kernel
theorem dX2_pass_66 : decode cX2_pass 66 = .ok (.iload 8, 2) := by decide +kernel
theorem dX2_pass_68 : decode cX2_pass 68 = .ok (.iconst (-1), 1) := by decide +kernel
theorem dX2_pass_69 : decode cX2_pass 69 = .ok (.if_icmp .eq 33, 3) := by decide +kernel
theorem dX2_pass_72 : decode cX2_pass 72 = .ok (.aload_n 0, 1) := by decide +kernel
theorem dX2_pass_73 : decode cX2_pass 73 = .ok (.iload 8, 2) := by decide +kernel
theorem dX2_pass_75 : decode cX2_pass 75 = .ok (.iload 5, 2) := by decide +kernel
theorem dX2_pass_77 : decode cX2_pass 77 = .ok (.iload 7, 2) := by decide +kernel
theorem dX2_pass_79 : decode cX2_pass 79 = .ok (.invokevirtual 28, 3) := by decide +kernel
theorem dX2_pass_82 : decode cX2_pass 82 = .ok (.iload 4, 2) := by decide +kernel
theorem dX2_pass_84 : decode cX2_pass 84 = .ok (.iconst 1, 1) := by decide +kernel
theorem dX2_pass_85 : decode cX2_pass 85 = .ok (.iload 8, 2) := by decide +kernel
theorem dX2_pass_87 : decode cX2_pass 87 = .ok (.ishl, 1) := by decide +kernel
theorem dX2_pass_88 : decode cX2_pass 88 = .ok (.iconst (-1), 1) := by decide +kernel
theorem dX2_pass_89 : decode cX2_pass 89 = .ok (.ixor, 1) := by decide +kernel
theorem dX2_pass_90 : decode cX2_pass 90 = .ok (.iand, 1) := by decide +kernel
theorem dX2_pass_91 : decode cX2_pass 91 = .ok (.istore 4, 2) := by decide +kernel
theorem dX2_pass_93 : decode cX2_pass 93 = .ok (.iload 7, 2) := by decide +kernel
theorem dX2_pass_95 : decode cX2_pass 95 = .ok (.iconst 1, 1) := by decide +kernel
theorem dX2_pass_96 : decode cX2_pass 96 = .ok (.iadd, 1) := by decide +kernel
theorem dX2_pass_97 : decode cX2_pass 97 = .ok (.istore 5, 2) := by decide +kernel
theorem dX2_pass_99 : decode cX2_pass 99 = .ok (.iinc 6 1, 3) := by decide +kernel
theorem dX2_pass_102 : decode cX2_pass 102 = .ok (.iinc 7 1, 3) := by decide +kernel
theorem dX2_pass_105 : decode cX2_pass 105 = .ok (.goto (-78), 3) := by decide +kernel
theorem dX2_pass_108 : decode cX2_pass 108 = .ok (.iload 6, 2) := by decide +kernel
theorem dX2_pass_110 : decode cX2_pass 110 = .ok (.ireturn, 1) := by decide +kernel
set_option maxRecDepth 20000 in
theorem ggX2_firstCaller_X0_worthWithin : GoodIn wsX2_firstCaller wsX0_worthWithin := goodIn_r _ [6, 7, 8, 17, 18, 19] (by decide +kernel) (by decide +kernel)
set_option maxRecDepth 20000 in
theorem gX2_firstCaller_X0_worthWithin : GoodIn wsX2_firstCaller (wsV RX2 36 RX0 yX0_worthWithin wsX0_worthWithin) := goodIn_app (goodIn_of _ (by decide +kernel)) ggX2_firstCaller_X0_worthWithin
set_option maxRecDepth 20000 in
theorem ggX2_firstCaller_X0_total : GoodIn wsX2_firstCaller wsX0_total := goodIn_r _ [12, 13, 14, 15, 5, 16, 8, 17, 18, 19] (by decide +kernel) (by decide +kernel)
set_option maxRecDepth 20000 in
theorem gX2_firstCaller_X0_total : GoodIn wsX2_firstCaller (wsV RX2 40 RX0 yX0_total wsX0_total) := goodIn_app (goodIn_of _ (by decide +kernel)) ggX2_firstCaller_X0_total
theorem dX2_firstCaller_0 : decode cX2_firstCaller 0 = .ok (.iconst 0, 1) := by decide +kernel
theorem dX2_firstCaller_1 : decode cX2_firstCaller 1 = .ok (.istore 5, 2) := by decide +kernel
theorem dX2_firstCaller_3 : decode cX2_firstCaller 3 = .ok (.iload 5, 2) := by decide +kernel
theorem dX2_firstCaller_5 : decode cX2_firstCaller 5 = .ok (.aload_n 0, 1) := by decide +kernel
theorem dX2_firstCaller_6 : decode cX2_firstCaller 6 = .ok (.getfield 32, 3) := by decide +kernel
theorem dX2_firstCaller_9 : decode cX2_firstCaller 9 = .ok (.if_icmp .ge 58, 3) := by decide +kernel
theorem dX2_firstCaller_12 : decode cX2_firstCaller 12 = .ok (.iload_n 2, 1) := by decide +kernel
theorem dX2_firstCaller_13 : decode cX2_firstCaller 13 = .ok (.iload 5, 2) := by decide +kernel
theorem dX2_firstCaller_15 : decode cX2_firstCaller 15 = .ok (.ishr, 1) := by decide +kernel
theorem dX2_firstCaller_16 : decode cX2_firstCaller 16 = .ok (.iconst 1, 1) := by decide +kernel
theorem dX2_firstCaller_17 : decode cX2_firstCaller 17 = .ok (.iand, 1) := by decide +kernel
theorem dX2_firstCaller_18 : decode cX2_firstCaller 18 = .ok (.iconst 1, 1) := by decide +kernel
theorem dX2_firstCaller_19 : decode cX2_firstCaller 19 = .ok (.if_icmp .ne 7, 3) := by decide +kernel
theorem dX2_firstCaller_22 : decode cX2_firstCaller 22 = .ok (.iconst 1, 1) := by decide +kernel
theorem dX2_firstCaller_23 : decode cX2_firstCaller 23 = .ok (.goto 4, 3) := by decide +kernel
theorem dX2_firstCaller_26 : decode cX2_firstCaller 26 = .ok (.iconst 0, 1) := by decide +kernel
theorem dX2_firstCaller_27 : decode cX2_firstCaller 27 = .ok (.istore 6, 2) := by decide +kernel
theorem dX2_firstCaller_29 : decode cX2_firstCaller 29 = .ok (.iload 6, 2) := by decide +kernel
theorem dX2_firstCaller_31 : decode cX2_firstCaller 31 = .ok (.ifCond .eq 30, 3) := by decide +kernel
theorem dX2_firstCaller_34 : decode cX2_firstCaller 34 = .ok (.bipush 100, 2) := by decide +kernel
theorem dX2_firstCaller_36 : decode cX2_firstCaller 36 = .ok (.aload_n 0, 1) := by decide +kernel
theorem dX2_firstCaller_37 : decode cX2_firstCaller 37 = .ok (.iload 5, 2) := by decide +kernel
theorem dX2_firstCaller_39 : decode cX2_firstCaller 39 = .ok (.iconst (-1), 1) := by decide +kernel
theorem dX2_firstCaller_40 : decode cX2_firstCaller 40 = .ok (.iload_n 3, 1) := by decide +kernel
theorem dX2_firstCaller_41 : decode cX2_firstCaller 41 = .ok (.iload 4, 2) := by decide +kernel
theorem dX2_firstCaller_43 : decode cX2_firstCaller 43 = .ok (.invokevirtual 36, 3) := by decide +kernel
theorem dX2_firstCaller_46 : decode cX2_firstCaller 46 = .ok (.imul, 1) := by decide +kernel
theorem dX2_firstCaller_47 : decode cX2_firstCaller 47 = .ok (.iload_n 1, 1) := by decide +kernel
theorem dX2_firstCaller_48 : decode cX2_firstCaller 48 = .ok (.aload_n 0, 1) := by decide +kernel
theorem dX2_firstCaller_49 : decode cX2_firstCaller 49 = .ok (.iload 5, 2) := by decide +kernel
theorem dX2_firstCaller_51 : decode cX2_firstCaller 51 = .ok (.invokevirtual 40, 3) := by decide +kernel
theorem dX2_firstCaller_54 : decode cX2_firstCaller 54 = .ok (.imul, 1) := by decide +kernel
theorem dX2_firstCaller_55 : decode cX2_firstCaller 55 = .ok (.if_icmp .lt 6, 3) := by decide +kernel
theorem dX2_firstCaller_58 : decode cX2_firstCaller 58 = .ok (.iload 5, 2) := by decide +kernel
theorem dX2_firstCaller_60 : decode cX2_firstCaller 60 = .ok (.ireturn, 1) := by decide +kernel
theorem dX2_firstCaller_61 : decode cX2_firstCaller 61 = .ok (.iinc 5 1, 3) := by decide +kernel
theorem dX2_firstCaller_64 : decode cX2_firstCaller 64 = .ok (.goto (-61), 3) := by decide +kernel
theorem dX2_firstCaller_67 : decode cX2_firstCaller 67 = .ok (.iconst (-1), 1) := by decide +kernel
theorem dX2_firstCaller_68 : decode cX2_firstCaller 68 = .ok (.ireturn, 1) := by decide +kernel
theorem dX2_giveTo_0 : decode cX2_giveTo 0 = .ok (.iload_n 2, 1) := by decide +kernel
theorem dX2_giveTo_1 : decode cX2_giveTo 1 = .ok (.istore 4, 2) := by decide +kernel
theorem dX2_giveTo_3 : decode cX2_giveTo 3 = .ok (.iload 4, 2) := by decide +kernel
theorem dX2_giveTo_5 : decode cX2_giveTo 5 = .ok (.iload_n 3, 1) := by decide +kernel
theorem dX2_giveTo_6 : decode cX2_giveTo 6 = .ok (.if_icmp .gt 28, 3) := by decide +kernel
theorem dX2_giveTo_9 : decode cX2_giveTo 9 = .ok (.aload_n 0, 1) := by decide +kernel
theorem dX2_giveTo_10 : decode cX2_giveTo 10 = .ok (.getfield 9, 3) := by decide +kernel
theorem dX2_giveTo_13 : decode cX2_giveTo 13 = .ok (.iload 4, 2) := by decide +kernel
theorem dX2_giveTo_15 : decode cX2_giveTo 15 = .ok (.iaload, 1) := by decide +kernel
theorem dX2_giveTo_16 : decode cX2_giveTo 16 = .ok (.iconst (-1), 1) := by decide +kernel
theorem dX2_giveTo_17 : decode cX2_giveTo 17 = .ok (.if_icmp .ne 11, 3) := by decide +kernel
theorem dX2_giveTo_20 : decode cX2_giveTo 20 = .ok (.aload_n 0, 1) := by decide +kernel
theorem dX2_giveTo_21 : decode cX2_giveTo 21 = .ok (.getfield 9, 3) := by decide +kernel
theorem dX2_giveTo_24 : decode cX2_giveTo 24 = .ok (.iload 4, 2) := by decide +kernel
theorem dX2_giveTo_26 : decode cX2_giveTo 26 = .ok (.iload_n 1, 1) := by decide +kernel
theorem dX2_giveTo_27 : decode cX2_giveTo 27 = .ok (.iastore, 1) := by decide +kernel
theorem dX2_giveTo_28 : decode cX2_giveTo 28 = .ok (.iinc 4 1, 3) := by decide +kernel
theorem dX2_giveTo_31 : decode cX2_giveTo 31 = .ok (.goto (-28), 3) := by decide +kernel
theorem dX2_giveTo_34 : decode cX2_giveTo 34 = .ok (.return_, 1) := by decide +kernel
set_option maxRecDepth 20000 in
theorem ggX3_init_X4_init : GoodIn wsX3_init wsX4_init := goodIn_r _ [11, 12, 2, 3, 8, 13, 14, 15, 16, 17, 18] (by decide +kernel) (by decide +kernel)
set_option maxRecDepth 20000 in
theorem gX3_init_X4_init_n11 : GoodIn wsX3_init (wsX4_init) := ggX3_init_X4_init
theorem dX3_init_0 : decode cX3_init 0 = .ok (.aload_n 0, 1) := by decide +kernel
theorem dX3_init_1 : decode cX3_init 1 = .ok (.invokespecial 3, 3) := by decide +kernel
theorem dX3_init_4 : decode cX3_init 4 = .ok (.aload_n 0, 1) := by decide +kernel
theorem dX3_init_5 : decode cX3_init 5 = .ok (.new 9, 3) := by decide +kernel
theorem dX3_init_8 : decode cX3_init 8 = .ok (.dup, 1) := by decide +kernel
theorem dX3_init_9 : decode cX3_init 9 = .ok (.invokespecial 11, 3) := by decide +kernel
theorem dX3_init_12 : decode cX3_init 12 = .ok (.putfield 12, 3) := by decide +kernel
theorem dX3_init_15 : decode cX3_init 15 = .ok (.aload_n 0, 1) := by decide +kernel
theorem dX3_init_16 : decode cX3_init 16 = .ok (.iconst 4, 1) := by decide +kernel
theorem dX3_init_17 : decode cX3_init 17 = .ok (.newarray .int, 2) := by decide +kernel
theorem dX3_init_19 : decode cX3_init 19 = .ok (.putfield 18, 3) := by decide +kernel
theorem dX3_init_22 : decode cX3_init 22 = .ok (.return_, 1) := by decide +kernel
set_option maxRecDepth 20000 in
theorem ggX3_find_X3_drawArrows : GoodIn wsX3_find wsX3_drawArrows := goodIn_r _ [8, 1, 9, 10, 11, 12, 13, 14, 15, 16, 17, 18, 19, 20, 21, 22, 23, 24, 25, 26, 27, 28, 58, 59, 60, 61, 62] (by decide +kernel) (by decide +kernel)
set_option maxRecDepth 20000 in
theorem gX3_find_X3_drawArrows : GoodIn wsX3_find (wsV RX3 22 RX3 yX3_drawArrows wsX3_drawArrows) := goodIn_app (goodIn_of _ (by decide +kernel)) ggX3_find_X3_drawArrows
set_option maxRecDepth 20000 in
theorem ggX3_find_X4_begin : GoodIn wsX3_find wsX4_begin := goodIn_r _ [33, 34, 35, 17, 36, 37, 38, 39, 40, 41, 32, 42, 43, 44, 45, 46, 47, 63, 64, 65] (by decide +kernel) (by decide +kernel)
set_option maxRecDepth 20000 in
theorem gX3_find_X4_begin : GoodIn wsX3_find (wsV RX3 32 RX4 yX4_begin wsX4_begin) := goodIn_app (goodIn_of _ (by decide +kernel)) ggX3_find_X4_begin
set_option maxRecDepth 20000 in
theorem ggX3_find_X3_isRing : GoodIn wsX3_find wsX3_isRing := goodIn_r _ [51, 2, 52, 53, 9, 61, 62, 63, 64, 65] (by decide +kernel) (by decide +kernel)
set_option maxRecDepth 20000 in
theorem gX3_find_X3_isRing : GoodIn wsX3_find (wsV RX3 37 RX3 yX3_isRing wsX3_isRing) := goodIn_app (goodIn_of _ (by decide +kernel)) ggX3_find_X3_isRing
set_option maxRecDepth 20000 in
theorem ggX3_find_X4_advance : GoodIn wsX3_find wsX4_advance := goodIn_r _ [57, 37, 34, 35, 17, 36, 43, 38, 44, 45, 46, 32, 47, 39, 40, 41, 42, 63, 64, 65] (by decide +kernel) (by decide +kernel)
set_option maxRecDepth 20000 in
theorem gX3_find_X4_advance : GoodIn wsX3_find (wsV RX3 41 RX4 yX4_advance wsX4_advance) := goodIn_app (goodIn_of _ (by decide +kernel)) ggX3_find_X4_advance
theorem dX3_find_0 : decode cX3_find 0 = .ok (.aload_n 0, 1) := by decide +kernel
theorem dX3_find_1 : decode cX3_find 1 = .ok (.aload_n 1, 1) := by decide +kernel
theorem dX3_find_2 : decode cX3_find 2 = .ok (.invokevirtual 22, 3) := by decide +kernel
theorem dX3_find_5 : decode cX3_find 5 = .ok (.iconst 2, 1) := by decide +kernel
theorem dX3_find_6 : decode cX3_find 6 = .ok (.istore_n 2, 1) := by decide +kernel
theorem dX3_find_7 : decode cX3_find 7 = .ok (.iload_n 2, 1) := by decide +kernel
theorem dX3_find_8 : decode cX3_find 8 = .ok (.aload_n 1, 1) := by decide +kernel
theorem dX3_find_9 : decode cX3_find 9 = .ok (.getfield 26, 3) := by decide +kernel
theorem dX3_find_12 : decode cX3_find 12 = .ok (.if_icmp .gt 63, 3) := by decide +kernel
theorem dX3_find_15 : decode cX3_find 15 = .ok (.aload_n 0, 1) := by decide +kernel
theorem dX3_find_16 : decode cX3_find 16 = .ok (.getfield 12, 3) := by decide +kernel
theorem dX3_find_19 : decode cX3_find 19 = .ok (.iload_n 2, 1) := by decide +kernel
theorem dX3_find_20 : decode cX3_find 20 = .ok (.aload_n 1, 1) := by decide +kernel
theorem dX3_find_21 : decode cX3_find 21 = .ok (.getfield 26, 3) := by decide +kernel
theorem dX3_find_24 : decode cX3_find 24 = .ok (.invokevirtual 32, 3) := by decide +kernel
theorem dX3_find_27 : decode cX3_find 27 = .ok (.iconst 1, 1) := by decide +kernel
theorem dX3_find_28 : decode cX3_find 28 = .ok (.istore_n 3, 1) := by decide +kernel
theorem dX3_find_29 : decode cX3_find 29 = .ok (.iconst 0, 1) := by decide +kernel
theorem dX3_find_30 : decode cX3_find 30 = .ok (.istore 4, 2) := by decide +kernel
theorem dX3_find_32 : decode cX3_find 32 = .ok (.iload_n 3, 1) := by decide +kernel
theorem dX3_find_33 : decode cX3_find 33 = .ok (.ifCond .eq 36, 3) := by decide +kernel
theorem dX3_find_36 : decode cX3_find 36 = .ok (.iload 4, 2) := by decide +kernel
theorem dX3_find_38 : decode cX3_find 38 = .ok (.ldc 36, 2) := by decide +kernel
theorem dX3_find_40 : decode cX3_find 40 = .ok (.if_icmp .ge 29, 3) := by decide +kernel
theorem dX3_find_43 : decode cX3_find 43 = .ok (.aload_n 0, 1) := by decide +kernel
theorem dX3_find_44 : decode cX3_find 44 = .ok (.invokevirtual 37, 3) := by decide +kernel
theorem dX3_find_47 : decode cX3_find 47 = .ok (.ifCond .eq 5, 3) := by decide +kernel
theorem dX3_find_50 : decode cX3_find 50 = .ok (.iload_n 2, 1) := by decide +kernel
theorem dX3_find_51 : decode cX3_find 51 = .ok (.ireturn, 1) := by decide +kernel
theorem dX3_find_52 : decode cX3_find 52 = .ok (.aload_n 0, 1) := by decide +kernel
theorem dX3_find_53 : decode cX3_find 53 = .ok (.getfield 12, 3) := by decide +kernel
theorem dX3_find_56 : decode cX3_find 56 = .ok (.iload_n 2, 1) := by decide +kernel
theorem dX3_find_57 : decode cX3_find 57 = .ok (.iconst 1, 1) := by decide +kernel
theorem dX3_find_58 : decode cX3_find 58 = .ok (.isub, 1) := by decide +kernel
theorem dX3_find_59 : decode cX3_find 59 = .ok (.invokevirtual 41, 3) := by decide +kernel
theorem dX3_find_62 : decode cX3_find 62 = .ok (.istore_n 3, 1) := by decide +kernel
theorem dX3_find_63 : decode cX3_find 63 = .ok (.iinc 4 1, 3) := by decide +kernel
theorem dX3_find_66 : decode cX3_find 66 = .ok (.goto (-34), 3) := by decide +kernel
theorem dX3_find_69 : decode cX3_find 69 = .ok (.iinc 2 1, 3) := by decide +kernel
theorem dX3_find_72 : decode cX3_find 72 = .ok (.goto (-65), 3) := by decide +kernel
theorem dX3_find_75 : decode cX3_find 75 = .ok (.iconst 0, 1) := by decide +kernel
theorem dX3_find_76 : decode cX3_find 76 = .ok (.ireturn, 1) := by decide +kernel
set_option maxRecDepth 20000 in
theorem ggX3_drawArrows_X0_envyOf : GoodIn wsX3_drawArrows wsX0_envyOf := goodIn_r _ [7, 8, 9, 10, 11, 12, 13, 14, 6, 15, 16, 17, 18, 19, 20, 21, 22, 23, 24] (by decide +kernel) (by decide +kernel)
set_option maxRecDepth 20000 in
theorem gX3_drawArrows_X0_envyOf : GoodIn wsX3_drawArrows (wsV RX3 45 RX0 yX0_envyOf wsX0_envyOf) := goodIn_app (goodIn_of _ (by decide +kernel)) ggX3_drawArrows_X0_envyOf
theorem dX3_drawArrows_0 : decode cX3_drawArrows 0 = .ok (.iconst 0, 1) := by decide +kernel
theorem dX3_drawArrows_1 : decode cX3_drawArrows 1 = .ok (.istore_n 2, 1) := by decide +kernel
theorem dX3_drawArrows_2 : decode cX3_drawArrows 2 = .ok (.iload_n 2, 1) := by decide +kernel
theorem dX3_drawArrows_3 : decode cX3_drawArrows 3 = .ok (.aload_n 1, 1) := by decide +kernel
theorem dX3_drawArrows_4 : decode cX3_drawArrows 4 = .ok (.getfield 26, 3) := by decide +kernel
theorem dX3_drawArrows_7 : decode cX3_drawArrows 7 = .ok (.if_icmp .ge 53, 3) := by decide +kernel
theorem dX3_drawArrows_10 : decode cX3_drawArrows 10 = .ok (.aload_n 0, 1) := by decide +kernel
theorem dX3_drawArrows_11 : decode cX3_drawArrows 11 = .ok (.getfield 18, 3) := by decide +kernel
theorem dX3_drawArrows_14 : decode cX3_drawArrows 14 = .ok (.iload_n 2, 1) := by decide +kernel
theorem dX3_drawArrows_15 : decode cX3_drawArrows 15 = .ok (.iconst 0, 1) := by decide +kernel
theorem dX3_drawArrows_16 : decode cX3_drawArrows 16 = .ok (.iastore, 1) := by decide +kernel
theorem dX3_drawArrows_17 : decode cX3_drawArrows 17 = .ok (.iconst 0, 1) := by decide +kernel
theorem dX3_drawArrows_18 : decode cX3_drawArrows 18 = .ok (.istore_n 3, 1) := by decide +kernel
theorem dX3_drawArrows_19 : decode cX3_drawArrows 19 = .ok (.iload_n 3, 1) := by decide +kernel
theorem dX3_drawArrows_20 : decode cX3_drawArrows 20 = .ok (.aload_n 1, 1) := by decide +kernel
theorem dX3_drawArrows_21 : decode cX3_drawArrows 21 = .ok (.getfield 26, 3) := by decide +kernel
theorem dX3_drawArrows_24 : decode cX3_drawArrows 24 = .ok (.if_icmp .ge 30, 3) := by decide +kernel
theorem dX3_drawArrows_27 : decode cX3_drawArrows 27 = .ok (.aload_n 1, 1) := by decide +kernel
theorem dX3_drawArrows_28 : decode cX3_drawArrows 28 = .ok (.iload_n 2, 1) := by decide +kernel
theorem dX3_drawArrows_29 : decode cX3_drawArrows 29 = .ok (.iload_n 3, 1) := by decide +kernel
theorem dX3_drawArrows_30 : decode cX3_drawArrows 30 = .ok (.invokevirtual 45, 3) := by decide +kernel
theorem dX3_drawArrows_33 : decode cX3_drawArrows 33 = .ok (.ifCond .le 15, 3) := by decide +kernel
theorem dX3_drawArrows_36 : decode cX3_drawArrows 36 = .ok (.aload_n 0, 1) := by decide +kernel
theorem dX3_drawArrows_37 : decode cX3_drawArrows 37 = .ok (.getfield 18, 3) := by decide +kernel
theorem dX3_drawArrows_40 : decode cX3_drawArrows 40 = .ok (.iload_n 2, 1) := by decide +kernel
theorem dX3_drawArrows_41 : decode cX3_drawArrows 41 = .ok (.dup2, 1) := by decide +kernel
theorem dX3_drawArrows_42 : decode cX3_drawArrows 42 = .ok (.iaload, 1) := by decide +kernel
theorem dX3_drawArrows_43 : decode cX3_drawArrows 43 = .ok (.iconst 1, 1) := by decide +kernel
theorem dX3_drawArrows_44 : decode cX3_drawArrows 44 = .ok (.iload_n 3, 1) := by decide +kernel
theorem dX3_drawArrows_45 : decode cX3_drawArrows 45 = .ok (.ishl, 1) := by decide +kernel
theorem dX3_drawArrows_46 : decode cX3_drawArrows 46 = .ok (.ior, 1) := by decide +kernel
theorem dX3_drawArrows_47 : decode cX3_drawArrows 47 = .ok (.iastore, 1) := by decide +kernel
theorem dX3_drawArrows_48 : decode cX3_drawArrows 48 = .ok (.iinc 3 1, 3) := by decide +kernel
theorem dX3_drawArrows_51 : decode cX3_drawArrows 51 = .ok (.goto (-32), 3) := by decide +kernel
theorem dX3_drawArrows_54 : decode cX3_drawArrows 54 = .ok (.iinc 2 1, 3) := by decide +kernel
theorem dX3_drawArrows_57 : decode cX3_drawArrows 57 = .ok (.goto (-55), 3) := by decide +kernel
theorem dX3_drawArrows_60 : decode cX3_drawArrows 60 = .ok (.return_, 1) := by decide +kernel
theorem dX3_isRing_0 : decode cX3_isRing 0 = .ok (.iconst 0, 1) := by decide +kernel
theorem dX3_isRing_1 : decode cX3_isRing 1 = .ok (.istore_n 1, 1) := by decide +kernel
theorem dX3_isRing_2 : decode cX3_isRing 2 = .ok (.iload_n 1, 1) := by decide +kernel
theorem dX3_isRing_3 : decode cX3_isRing 3 = .ok (.aload_n 0, 1) := by decide +kernel
theorem dX3_isRing_4 : decode cX3_isRing 4 = .ok (.getfield 12, 3) := by decide +kernel
theorem dX3_isRing_7 : decode cX3_isRing 7 = .ok (.getfield 49, 3) := by decide +kernel
theorem dX3_isRing_10 : decode cX3_isRing 10 = .ok (.if_icmp .ge 61, 3) := by decide +kernel
theorem dX3_isRing_13 : decode cX3_isRing 13 = .ok (.aload_n 0, 1) := by decide +kernel
theorem dX3_isRing_14 : decode cX3_isRing 14 = .ok (.getfield 12, 3) := by decide +kernel
theorem dX3_isRing_17 : decode cX3_isRing 17 = .ok (.getfield 52, 3) := by decide +kernel
theorem dX3_isRing_20 : decode cX3_isRing 20 = .ok (.iload_n 1, 1) := by decide +kernel
theorem dX3_isRing_21 : decode cX3_isRing 21 = .ok (.iconst 1, 1) := by decide +kernel
theorem dX3_isRing_22 : decode cX3_isRing 22 = .ok (.iadd, 1) := by decide +kernel
theorem dX3_isRing_23 : decode cX3_isRing 23 = .ok (.aload_n 0, 1) := by decide +kernel
theorem dX3_isRing_24 : decode cX3_isRing 24 = .ok (.getfield 12, 3) := by decide +kernel
theorem dX3_isRing_27 : decode cX3_isRing 27 = .ok (.getfield 49, 3) := by decide +kernel
theorem dX3_isRing_30 : decode cX3_isRing 30 = .ok (.if_icmp .ge 9, 3) := by decide +kernel
theorem dX3_isRing_33 : decode cX3_isRing 33 = .ok (.iload_n 1, 1) := by decide +kernel
theorem dX3_isRing_34 : decode cX3_isRing 34 = .ok (.iconst 1, 1) := by decide +kernel
theorem dX3_isRing_35 : decode cX3_isRing 35 = .ok (.iadd, 1) := by decide +kernel
theorem dX3_isRing_36 : decode cX3_isRing 36 = .ok (.goto 4, 3) := by decide +kernel
theorem dX3_isRing_39 : decode cX3_isRing 39 = .ok (.iconst 0, 1) := by decide +kernel
theorem dX3_isRing_40 : decode cX3_isRing 40 = .ok (.iaload, 1) := by decide +kernel
theorem dX3_isRing_41 : decode cX3_isRing 41 = .ok (.istore_n 2, 1) := by decide +kernel
theorem dX3_isRing_42 : decode cX3_isRing 42 = .ok (.aload_n 0, 1) := by decide +kernel
theorem dX3_isRing_43 : decode cX3_isRing 43 = .ok (.getfield 18, 3) := by decide +kernel
theorem dX3_isRing_46 : decode cX3_isRing 46 = .ok (.aload_n 0, 1) := by decide +kernel
theorem dX3_isRing_47 : decode cX3_isRing 47 = .ok (.getfield 12, 3) := by decide +kernel
theorem dX3_isRing_50 : decode cX3_isRing 50 = .ok (.getfield 52, 3) := by decide +kernel
theorem dX3_isRing_53 : decode cX3_isRing 53 = .ok (.iload_n 1, 1) := by decide +kernel
theorem dX3_isRing_54 : decode cX3_isRing 54 = .ok (.iaload, 1) := by decide +kernel
theorem dX3_isRing_55 : decode cX3_isRing 55 = .ok (.iaload, 1) := by decide +kernel
theorem dX3_isRing_56 : decode cX3_isRing 56 = .ok (.iload_n 2, 1) := by decide +kernel
theorem dX3_isRing_57 : decode cX3_isRing 57 = .ok (.ishr, 1) := by decide +kernel
theorem dX3_isRing_58 : decode cX3_isRing 58 = .ok (.iconst 1, 1) := by decide +kernel
theorem dX3_isRing_59 : decode cX3_isRing 59 = .ok (.iand, 1) := by decide +kernel
theorem dX3_isRing_60 : decode cX3_isRing 60 = .ok (.ifCond .ne 5, 3) := by decide +kernel
theorem dX3_isRing_63 : decode cX3_isRing 63 = .ok (.iconst 0, 1) := by decide +kernel
theorem dX3_isRing_64 : decode cX3_isRing 64 = .ok (.ireturn, 1) := by decide +kernel
theorem dX3_isRing_65 : decode cX3_isRing 65 = .ok (.iinc 1 1, 3) := by decide +kernel
theorem dX3_isRing_68 : decode cX3_isRing 68 = .ok (.goto (-66), 3) := by decide +kernel
theorem dX3_isRing_71 : decode cX3_isRing 71 = .ok (.iconst 1, 1) := by decide +kernel
theorem dX3_isRing_72 : decode cX3_isRing 72 = .ok (.ireturn, 1) := by decide +kernel
theorem dX4_init_0 : decode cX4_init 0 = .ok (.aload_n 0, 1) := by decide +kernel
theorem dX4_init_1 : decode cX4_init 1 = .ok (.invokespecial 3, 3) := by decide +kernel
theorem dX4_init_4 : decode cX4_init 4 = .ok (.aload_n 0, 1) := by decide +kernel
theorem dX4_init_5 : decode cX4_init 5 = .ok (.iconst 4, 1) := by decide +kernel
theorem dX4_init_6 : decode cX4_init 6 = .ok (.newarray .int, 2) := by decide +kernel
theorem dX4_init_8 : decode cX4_init 8 = .ok (.putfield 9, 3) := by decide +kernel
theorem dX4_init_11 : decode cX4_init 11 = .ok (.aload_n 0, 1) := by decide +kernel
theorem dX4_init_12 : decode cX4_init 12 = .ok (.iconst 0, 1) := by decide +kernel
theorem dX4_init_13 : decode cX4_init 13 = .ok (.putfield 15, 3) := by decide +kernel
theorem dX4_init_16 : decode cX4_init 16 = .ok (.aload_n 0, 1) := by decide +kernel
theorem dX4_init_17 : decode cX4_init 17 = .ok (.iconst 0, 1) := by decide +kernel
theorem dX4_init_18 : decode cX4_init 18 = .ok (.putfield 19, 3) := by decide +kernel
theorem dX4_init_21 : decode cX4_init 21 = .ok (.return_, 1) := by decide +kernel
set_option maxRecDepth 20000 in
theorem ggX4_begin_X4_fill : GoodIn wsX4_begin wsX4_fill := goodIn_r _ [11, 5, 12, 13, 14, 15, 10, 16, 6, 17, 18, 19] (by decide +kernel) (by decide +kernel)
set_option maxRecDepth 20000 in
theorem gX4_begin_X4_fill : GoodIn wsX4_begin (wsV RX4 28 RX4 yX4_fill wsX4_fill) := goodIn_app (goodIn_of _ (by decide +kernel)) ggX4_begin_X4_fill
theorem dX4_begin_0 : decode cX4_begin 0 = .ok (.aload_n 0, 1) := by decide +kernel
theorem dX4_begin_1 : decode cX4_begin 1 = .ok (.iload_n 1, 1) := by decide +kernel
theorem dX4_begin_2 : decode cX4_begin 2 = .ok (.iconst 4, 1) := by decide +kernel
theorem dX4_begin_3 : decode cX4_begin 3 = .ok (.invokestatic 22, 3) := by decide +kernel
theorem dX4_begin_6 : decode cX4_begin 6 = .ok (.putfield 15, 3) := by decide +kernel
theorem dX4_begin_9 : decode cX4_begin 9 = .ok (.aload_n 0, 1) := by decide +kernel
theorem dX4_begin_10 : decode cX4_begin 10 = .ok (.iload_n 2, 1) := by decide +kernel
theorem dX4_begin_11 : decode cX4_begin 11 = .ok (.putfield 19, 3) := by decide +kernel
theorem dX4_begin_14 : decode cX4_begin 14 = .ok (.aload_n 0, 1) := by decide +kernel
theorem dX4_begin_15 : decode cX4_begin 15 = .ok (.iconst 0, 1) := by decide +kernel
theorem dX4_begin_16 : decode cX4_begin 16 = .ok (.invokevirtual 28, 3) := by decide +kernel
theorem dX4_begin_19 : decode cX4_begin 19 = .ok (.return_, 1) := by decide +kernel
set_option maxRecDepth 20000 in
theorem ggX4_advance_X4_firstFree : GoodIn wsX4_advance wsX4_firstFree := goodIn_r _ [12, 6, 7, 17, 18, 19] (by decide +kernel) (by decide +kernel)
set_option maxRecDepth 20000 in
theorem gX4_advance_X4_firstFree : GoodIn wsX4_advance (wsV RX4 32 RX4 yX4_firstFree wsX4_firstFree) := goodIn_app (goodIn_of _ (by decide +kernel)) ggX4_advance_X4_firstFree
set_option maxRecDepth 20000 in
theorem ggX4_advance_X4_fill : GoodIn wsX4_advance wsX4_fill := goodIn_r _ [16, 1, 6, 8, 9, 10, 11, 12, 7, 17, 18, 19] (by decide +kernel) (by decide +kernel)
set_option maxRecDepth 20000 in
theorem gX4_advance_X4_fill : GoodIn wsX4_advance (wsV RX4 28 RX4 yX4_fill wsX4_fill) := goodIn_app (goodIn_of _ (by decide +kernel)) ggX4_advance_X4_fill
theorem dX4_advance_0 : decode cX4_advance 0 = .ok (.iload_n 1, 1) := by decide +kernel
theorem dX4_advance_1 : decode cX4_advance 1 = .ok (.aload_n 0, 1) := by decide +kernel
theorem dX4_advance_2 : decode cX4_advance 2 = .ok (.getfield 15, 3) := by decide +kernel
theorem dX4_advance_5 : decode cX4_advance 5 = .ok (.iconst 1, 1) := by decide +kernel
theorem dX4_advance_6 : decode cX4_advance 6 = .ok (.isub, 1) := by decide +kernel
theorem dX4_advance_7 : decode cX4_advance 7 = .ok (.invokestatic 22, 3) := by decide +kernel
theorem dX4_advance_10 : decode cX4_advance 10 = .ok (.istore_n 2, 1) := by decide +kernel
theorem dX4_advance_11 : decode cX4_advance 11 = .ok (.iload_n 2, 1) := by decide +kernel
theorem dX4_advance_12 : decode cX4_advance 12 = .ok (.ifCond .lt 47, 3) := by decide +kernel
theorem dX4_advance_15 : decode cX4_advance 15 = .ok (.aload_n 0, 1) := by decide +kernel
theorem dX4_advance_16 : decode cX4_advance 16 = .ok (.iload_n 2, 1) := by decide +kernel
theorem dX4_advance_17 : decode cX4_advance 17 = .ok (.aload_n 0, 1) := by decide +kernel
theorem dX4_advance_18 : decode cX4_advance 18 = .ok (.getfield 9, 3) := by decide +kernel
theorem dX4_advance_21 : decode cX4_advance 21 = .ok (.iload_n 2, 1) := by decide +kernel
theorem dX4_advance_22 : decode cX4_advance 22 = .ok (.iaload, 1) := by decide +kernel
theorem dX4_advance_23 : decode cX4_advance 23 = .ok (.iconst 1, 1) := by decide +kernel
theorem dX4_advance_24 : decode cX4_advance 24 = .ok (.iadd, 1) := by decide +kernel
theorem dX4_advance_25 : decode cX4_advance 25 = .ok (.invokevirtual 32, 3) := by decide +kernel
theorem dX4_advance_28 : decode cX4_advance 28 = .ok (.istore_n 3, 1) := by decide +kernel
theorem dX4_advance_29 : decode cX4_advance 29 = .ok (.iload_n 3, 1) := by decide +kernel
theorem dX4_advance_30 : decode cX4_advance 30 = .ok (.aload_n 0, 1) := by decide +kernel
theorem dX4_advance_31 : decode cX4_advance 31 = .ok (.getfield 19, 3) := by decide +kernel
theorem dX4_advance_34 : decode cX4_advance 34 = .ok (.if_icmp .ge 19, 3) := by decide +kernel
theorem dX4_advance_37 : decode cX4_advance 37 = .ok (.aload_n 0, 1) := by decide +kernel
theorem dX4_advance_38 : decode cX4_advance 38 = .ok (.getfield 9, 3) := by decide +kernel
theorem dX4_advance_41 : decode cX4_advance 41 = .ok (.iload_n 2, 1) := by decide +kernel
theorem dX4_advance_42 : decode cX4_advance 42 = .ok (.iload_n 3, 1) := by decide +kernel
theorem dX4_advance_43 : decode cX4_advance 43 = .ok (.iastore, 1) := by decide +kernel
theorem dX4_advance_44 : decode cX4_advance 44 = .ok (.aload_n 0, 1) := by decide +kernel
theorem dX4_advance_45 : decode cX4_advance 45 = .ok (.iload_n 2, 1) := by decide +kernel
theorem dX4_advance_46 : decode cX4_advance 46 = .ok (.iconst 1, 1) := by decide +kernel
theorem dX4_advance_47 : decode cX4_advance 47 = .ok (.iadd, 1) := by decide +kernel
theorem dX4_advance_48 : decode cX4_advance 48 = .ok (.invokevirtual 28, 3) := by decide +kernel
theorem dX4_advance_51 : decode cX4_advance 51 = .ok (.iconst 1, 1) := by decide +kernel
theorem dX4_advance_52 : decode cX4_advance 52 = .ok (.ireturn, 1) := by decide +kernel
theorem dX4_advance_53 : decode cX4_advance 53 = .ok (.iinc 2 (-1), 3) := by decide +kernel
theorem dX4_advance_56 : decode cX4_advance 56 = .ok (.goto (-45), 3) := by decide +kernel
theorem dX4_advance_59 : decode cX4_advance 59 = .ok (.iconst 0, 1) := by decide +kernel
theorem dX4_advance_60 : decode cX4_advance 60 = .ok (.ireturn, 1) := by decide +kernel
theorem dX4_placeOf_0 : decode cX4_placeOf 0 = .ok (.iconst 0, 1) := by decide +kernel
theorem dX4_placeOf_1 : decode cX4_placeOf 1 = .ok (.istore_n 2, 1) := by decide +kernel
theorem dX4_placeOf_2 : decode cX4_placeOf 2 = .ok (.iload_n 2, 1) := by decide +kernel
theorem dX4_placeOf_3 : decode cX4_placeOf 3 = .ok (.aload_n 0, 1) := by decide +kernel
theorem dX4_placeOf_4 : decode cX4_placeOf 4 = .ok (.getfield 15, 3) := by decide +kernel
theorem dX4_placeOf_7 : decode cX4_placeOf 7 = .ok (.if_icmp .ge 21, 3) := by decide +kernel
theorem dX4_placeOf_10 : decode cX4_placeOf 10 = .ok (.aload_n 0, 1) := by decide +kernel
theorem dX4_placeOf_11 : decode cX4_placeOf 11 = .ok (.getfield 9, 3) := by decide +kernel
theorem dX4_placeOf_14 : decode cX4_placeOf 14 = .ok (.iload_n 2, 1) := by decide +kernel
theorem dX4_placeOf_15 : decode cX4_placeOf 15 = .ok (.iaload, 1) := by decide +kernel
theorem dX4_placeOf_16 : decode cX4_placeOf 16 = .ok (.iload_n 1, 1) := by decide +kernel
theorem dX4_placeOf_17 : decode cX4_placeOf 17 = .ok (.if_icmp .ne 5, 3) := by decide +kernel
theorem dX4_placeOf_20 : decode cX4_placeOf 20 = .ok (.iload_n 2, 1) := by decide +kernel
theorem dX4_placeOf_21 : decode cX4_placeOf 21 = .ok (.ireturn, 1) := by decide +kernel
theorem dX4_placeOf_22 : decode cX4_placeOf 22 = .ok (.iinc 2 1, 3) := by decide +kernel
theorem dX4_placeOf_25 : decode cX4_placeOf 25 = .ok (.goto (-23), 3) := by decide +kernel
theorem dX4_placeOf_28 : decode cX4_placeOf 28 = .ok (.aload_n 0, 1) := by decide +kernel
theorem dX4_placeOf_29 : decode cX4_placeOf 29 = .ok (.getfield 15, 3) := by decide +kernel
theorem dX4_placeOf_32 : decode cX4_placeOf 32 = .ok (.ireturn, 1) := by decide +kernel
set_option maxRecDepth 20000 in
theorem ggX4_fill_X4_firstFree : GoodIn wsX4_fill wsX4_firstFree := goodIn_r _ [7, 2, 8, 9, 10, 11] (by decide +kernel) (by decide +kernel)
set_option maxRecDepth 20000 in
theorem gX4_fill_X4_firstFree : GoodIn wsX4_fill (wsV RX4 32 RX4 yX4_firstFree wsX4_firstFree) := goodIn_app (goodIn_of _ (by decide +kernel)) ggX4_fill_X4_firstFree
theorem dX4_fill_0 : decode cX4_fill 0 = .ok (.iload_n 1, 1) := by decide +kernel
theorem dX4_fill_1 : decode cX4_fill 1 = .ok (.istore_n 2, 1) := by decide +kernel
theorem dX4_fill_2 : decode cX4_fill 2 = .ok (.iload_n 2, 1) := by decide +kernel
theorem dX4_fill_3 : decode cX4_fill 3 = .ok (.aload_n 0, 1) := by decide +kernel
theorem dX4_fill_4 : decode cX4_fill 4 = .ok (.getfield 15, 3) := by decide +kernel
theorem dX4_fill_7 : decode cX4_fill 7 = .ok (.if_icmp .ge 21, 3) := by decide +kernel
theorem dX4_fill_10 : decode cX4_fill 10 = .ok (.aload_n 0, 1) := by decide +kernel
theorem dX4_fill_11 : decode cX4_fill 11 = .ok (.getfield 9, 3) := by decide +kernel
theorem dX4_fill_14 : decode cX4_fill 14 = .ok (.iload_n 2, 1) := by decide +kernel
theorem dX4_fill_15 : decode cX4_fill 15 = .ok (.aload_n 0, 1) := by decide +kernel
theorem dX4_fill_16 : decode cX4_fill 16 = .ok (.iload_n 2, 1) := by decide +kernel
theorem dX4_fill_17 : decode cX4_fill 17 = .ok (.iconst 0, 1) := by decide +kernel
theorem dX4_fill_18 : decode cX4_fill 18 = .ok (.invokevirtual 32, 3) := by decide +kernel
theorem dX4_fill_21 : decode cX4_fill 21 = .ok (.iastore, 1) := by decide +kernel
theorem dX4_fill_22 : decode cX4_fill 22 = .ok (.iinc 2 1, 3) := by decide +kernel
theorem dX4_fill_25 : decode cX4_fill 25 = .ok (.goto (-23), 3) := by decide +kernel
theorem dX4_fill_28 : decode cX4_fill 28 = .ok (.return_, 1) := by decide +kernel
theorem dX4_firstFree_0 : decode cX4_firstFree 0 = .ok (.iconst 0, 1) := by decide +kernel
theorem dX4_firstFree_1 : decode cX4_firstFree 1 = .ok (.istore_n 3, 1) := by decide +kernel
theorem dX4_firstFree_2 : decode cX4_firstFree 2 = .ok (.iconst 0, 1) := by decide +kernel
theorem dX4_firstFree_3 : decode cX4_firstFree 3 = .ok (.istore 4, 2) := by decide +kernel
theorem dX4_firstFree_5 : decode cX4_firstFree 5 = .ok (.iload 4, 2) := by decide +kernel
theorem dX4_firstFree_7 : decode cX4_firstFree 7 = .ok (.iload_n 1, 1) := by decide +kernel
theorem dX4_firstFree_8 : decode cX4_firstFree 8 = .ok (.if_icmp .ge 21, 3) := by decide +kernel
theorem dX4_firstFree_11 : decode cX4_firstFree 11 = .ok (.iload_n 3, 1) := by decide +kernel
theorem dX4_firstFree_12 : decode cX4_firstFree 12 = .ok (.iconst 1, 1) := by decide +kernel
theorem dX4_firstFree_13 : decode cX4_firstFree 13 = .ok (.aload_n 0, 1) := by decide +kernel
theorem dX4_firstFree_14 : decode cX4_firstFree 14 = .ok (.getfield 9, 3) := by decide +kernel
theorem dX4_firstFree_17 : decode cX4_firstFree 17 = .ok (.iload 4, 2) := by decide +kernel
theorem dX4_firstFree_19 : decode cX4_firstFree 19 = .ok (.iaload, 1) := by decide +kernel
theorem dX4_firstFree_20 : decode cX4_firstFree 20 = .ok (.ishl, 1) := by decide +kernel
theorem dX4_firstFree_21 : decode cX4_firstFree 21 = .ok (.ior, 1) := by decide +kernel
theorem dX4_firstFree_22 : decode cX4_firstFree 22 = .ok (.istore_n 3, 1) := by decide +kernel
theorem dX4_firstFree_23 : decode cX4_firstFree 23 = .ok (.iinc 4 1, 3) := by decide +kernel
theorem dX4_firstFree_26 : decode cX4_firstFree 26 = .ok (.goto (-21), 3) := by decide +kernel
theorem dX4_firstFree_29 : decode cX4_firstFree 29 = .ok (.iload_n 2, 1) := by decide +kernel
theorem dX4_firstFree_30 : decode cX4_firstFree 30 = .ok (.istore 4, 2) := by decide +kernel
theorem dX4_firstFree_32 : decode cX4_firstFree 32 = .ok (.iload 4, 2) := by decide +kernel
theorem dX4_firstFree_34 : decode cX4_firstFree 34 = .ok (.aload_n 0, 1) := by decide +kernel
theorem dX4_firstFree_35 : decode cX4_firstFree 35 = .ok (.getfield 19, 3) := by decide +kernel
theorem dX4_firstFree_38 : decode cX4_firstFree 38 = .ok (.if_icmp .ge 21, 3) := by decide +kernel
theorem dX4_firstFree_41 : decode cX4_firstFree 41 = .ok (.iload_n 3, 1) := by decide +kernel
theorem dX4_firstFree_42 : decode cX4_firstFree 42 = .ok (.iload 4, 2) := by decide +kernel
theorem dX4_firstFree_44 : decode cX4_firstFree 44 = .ok (.ishr, 1) := by decide +kernel
theorem dX4_firstFree_45 : decode cX4_firstFree 45 = .ok (.iconst 1, 1) := by decide +kernel
theorem dX4_firstFree_46 : decode cX4_firstFree 46 = .ok (.iand, 1) := by decide +kernel
theorem dX4_firstFree_47 : decode cX4_firstFree 47 = .ok (.ifCond .ne 6, 3) := by decide +kernel
theorem dX4_firstFree_50 : decode cX4_firstFree 50 = .ok (.iload 4, 2) := by decide +kernel
theorem dX4_firstFree_52 : decode cX4_firstFree 52 = .ok (.ireturn, 1) := by decide +kernel
theorem dX4_firstFree_53 : decode cX4_firstFree 53 = .ok (.iinc 4 1, 3) := by decide +kernel
theorem dX4_firstFree_56 : decode cX4_firstFree 56 = .ok (.goto (-24), 3) := by decide +kernel
theorem dX4_firstFree_59 : decode cX4_firstFree 59 = .ok (.aload_n 0, 1) := by decide +kernel
theorem dX4_firstFree_60 : decode cX4_firstFree 60 = .ok (.getfield 19, 3) := by decide +kernel
theorem dX4_firstFree_63 : decode cX4_firstFree 63 = .ok (.ireturn, 1) := by decide +kernel
theorem dX5_init_0 : decode cX5_init 0 = .ok (.aload_n 0, 1) := by decide +kernel
theorem dX5_init_1 : decode cX5_init 1 = .ok (.invokespecial 3, 3) := by decide +kernel
theorem dX5_init_4 : decode cX5_init 4 = .ok (.aload_n 0, 1) := by decide +kernel
theorem dX5_init_5 : decode cX5_init 5 = .ok (.iconst 0, 1) := by decide +kernel
theorem dX5_init_6 : decode cX5_init 6 = .ok (.putfield 9, 3) := by decide +kernel
theorem dX5_init_9 : decode cX5_init 9 = .ok (.aload_n 0, 1) := by decide +kernel
theorem dX5_init_10 : decode cX5_init 10 = .ok (.bipush 60, 2) := by decide +kernel
theorem dX5_init_12 : decode cX5_init 12 = .ok (.newarray .int, 2) := by decide +kernel
theorem dX5_init_14 : decode cX5_init 14 = .ok (.putfield 15, 3) := by decide +kernel
theorem dX5_init_17 : decode cX5_init 17 = .ok (.aload_n 0, 1) := by decide +kernel
theorem dX5_init_18 : decode cX5_init 18 = .ok (.bipush 24, 2) := by decide +kernel
theorem dX5_init_20 : decode cX5_init 20 = .ok (.newarray .int, 2) := by decide +kernel
theorem dX5_init_22 : decode cX5_init 22 = .ok (.putfield 19, 3) := by decide +kernel
theorem dX5_init_25 : decode cX5_init 25 = .ok (.aload_n 0, 1) := by decide +kernel
theorem dX5_init_26 : decode cX5_init 26 = .ok (.iconst 0, 1) := by decide +kernel
theorem dX5_init_27 : decode cX5_init 27 = .ok (.putfield 22, 3) := by decide +kernel
theorem dX5_init_30 : decode cX5_init 30 = .ok (.aload_n 0, 1) := by decide +kernel
theorem dX5_init_31 : decode cX5_init 31 = .ok (.iconst 0, 1) := by decide +kernel
theorem dX5_init_32 : decode cX5_init 32 = .ok (.putfield 25, 3) := by decide +kernel
theorem dX5_init_35 : decode cX5_init 35 = .ok (.return_, 1) := by decide +kernel
set_option maxRecDepth 20000 in
theorem ggX5_findFailure_X5_readPart : GoodIn wsX5_findFailure wsX5_readPart := goodIn_r _ [9, 1, 2, 4, 3, 10, 11, 12, 13, 8, 14, 15, 16, 17, 18, 19, 20, 21, 22, 23] (by decide +kernel) (by decide +kernel)
set_option maxRecDepth 20000 in
theorem gX5_findFailure_X5_readPart : GoodIn wsX5_findFailure (wsV RX5 28 RX5 yX5_readPart wsX5_readPart) := goodIn_app (goodIn_of _ (by decide +kernel)) ggX5_findFailure_X5_readPart
theorem dX5_findFailure_0 : decode cX5_findFailure 0 = .ok (.aload_n 0, 1) := by decide +kernel
theorem dX5_findFailure_1 : decode cX5_findFailure 1 = .ok (.iconst 0, 1) := by decide +kernel
theorem dX5_findFailure_2 : decode cX5_findFailure 2 = .ok (.putfield 22, 3) := by decide +kernel
theorem dX5_findFailure_5 : decode cX5_findFailure 5 = .ok (.aload_n 0, 1) := by decide +kernel
theorem dX5_findFailure_6 : decode cX5_findFailure 6 = .ok (.iconst 0, 1) := by decide +kernel
theorem dX5_findFailure_7 : decode cX5_findFailure 7 = .ok (.putfield 25, 3) := by decide +kernel
theorem dX5_findFailure_10 : decode cX5_findFailure 10 = .ok (.iconst 0, 1) := by decide +kernel
theorem dX5_findFailure_11 : decode cX5_findFailure 11 = .ok (.istore_n 1, 1) := by decide +kernel
theorem dX5_findFailure_12 : decode cX5_findFailure 12 = .ok (.iload_n 1, 1) := by decide +kernel
theorem dX5_findFailure_13 : decode cX5_findFailure 13 = .ok (.bipush 24, 2) := by decide +kernel
theorem dX5_findFailure_15 : decode cX5_findFailure 15 = .ok (.if_icmp .gt 79, 3) := by decide +kernel
theorem dX5_findFailure_18 : decode cX5_findFailure 18 = .ok (.aload_n 0, 1) := by decide +kernel
theorem dX5_findFailure_19 : decode cX5_findFailure 19 = .ok (.invokevirtual 28, 3) := by decide +kernel
theorem dX5_findFailure_22 : decode cX5_findFailure 22 = .ok (.istore_n 2, 1) := by decide +kernel
theorem dX5_findFailure_23 : decode cX5_findFailure 23 = .ok (.iload_n 2, 1) := by decide +kernel
theorem dX5_findFailure_24 : decode cX5_findFailure 24 = .ok (.iconst (-1), 1) := by decide +kernel
theorem dX5_findFailure_25 : decode cX5_findFailure 25 = .ok (.if_icmp .eq 5, 3) := by decide +kernel
theorem dX5_findFailure_28 : decode cX5_findFailure 28 = .ok (.iload_n 2, 1) := by decide +kernel
theorem dX5_findFailure_29 : decode cX5_findFailure 29 = .ok (.ireturn, 1) := by decide +kernel
theorem dX5_findFailure_30 : decode cX5_findFailure 30 = .ok (.aload_n 0, 1) := by decide +kernel
theorem dX5_findFailure_31 : decode cX5_findFailure 31 = .ok (.getfield 25, 3) := by decide +kernel
theorem dX5_findFailure_34 : decode cX5_findFailure 34 = .ok (.aload_n 0, 1) := by decide +kernel
theorem dX5_findFailure_35 : decode cX5_findFailure 35 = .ok (.getfield 9, 3) := by decide +kernel
theorem dX5_findFailure_38 : decode cX5_findFailure 38 = .ok (.if_icmp .lt 21, 3) := by decide +kernel
theorem dX5_findFailure_41 : decode cX5_findFailure 41 = .ok (.aload_n 0, 1) := by decide +kernel
theorem dX5_findFailure_42 : decode cX5_findFailure 42 = .ok (.getfield 22, 3) := by decide +kernel
theorem dX5_findFailure_45 : decode cX5_findFailure 45 = .ok (.bipush 24, 2) := by decide +kernel
theorem dX5_findFailure_47 : decode cX5_findFailure 47 = .ok (.if_icmp .ne 7, 3) := by decide +kernel
theorem dX5_findFailure_50 : decode cX5_findFailure 50 = .ok (.iconst (-1), 1) := by decide +kernel
theorem dX5_findFailure_51 : decode cX5_findFailure 51 = .ok (.goto 7, 3) := by decide +kernel
theorem dX5_findFailure_54 : decode cX5_findFailure 54 = .ok (.aload_n 0, 1) := by decide +kernel
theorem dX5_findFailure_55 : decode cX5_findFailure 55 = .ok (.getfield 9, 3) := by decide +kernel
theorem dX5_findFailure_58 : decode cX5_findFailure 58 = .ok (.ireturn, 1) := by decide +kernel
theorem dX5_findFailure_59 : decode cX5_findFailure 59 = .ok (.aload_n 0, 1) := by decide +kernel
theorem dX5_findFailure_60 : decode cX5_findFailure 60 = .ok (.getfield 15, 3) := by decide +kernel
theorem dX5_findFailure_63 : decode cX5_findFailure 63 = .ok (.aload_n 0, 1) := by decide +kernel
theorem dX5_findFailure_64 : decode cX5_findFailure 64 = .ok (.getfield 25, 3) := by decide +kernel
theorem dX5_findFailure_67 : decode cX5_findFailure 67 = .ok (.iaload, 1) := by decide +kernel
theorem dX5_findFailure_68 : decode cX5_findFailure 68 = .ok (.bipush 44, 2) := by decide +kernel
theorem dX5_findFailure_70 : decode cX5_findFailure 70 = .ok (.if_icmp .eq 8, 3) := by decide +kernel
theorem dX5_findFailure_73 : decode cX5_findFailure 73 = .ok (.aload_n 0, 1) := by decide +kernel
theorem dX5_findFailure_74 : decode cX5_findFailure 74 = .ok (.getfield 25, 3) := by decide +kernel
theorem dX5_findFailure_77 : decode cX5_findFailure 77 = .ok (.ireturn, 1) := by decide +kernel
theorem dX5_findFailure_78 : decode cX5_findFailure 78 = .ok (.aload_n 0, 1) := by decide +kernel
theorem dX5_findFailure_79 : decode cX5_findFailure 79 = .ok (.dup, 1) := by decide +kernel
theorem dX5_findFailure_80 : decode cX5_findFailure 80 = .ok (.getfield 25, 3) := by decide +kernel
theorem dX5_findFailure_83 : decode cX5_findFailure 83 = .ok (.iconst 1, 1) := by decide +kernel
theorem dX5_findFailure_84 : decode cX5_findFailure 84 = .ok (.iadd, 1) := by decide +kernel
theorem dX5_findFailure_85 : decode cX5_findFailure 85 = .ok (.putfield 25, 3) := by decide +kernel
theorem dX5_findFailure_88 : decode cX5_findFailure 88 = .ok (.iinc 1 1, 3) := by decide +kernel
theorem dX5_findFailure_91 : decode cX5_findFailure 91 = .ok (.goto (-79), 3) := by decide +kernel
theorem dX5_findFailure_94 : decode cX5_findFailure 94 = .ok (.aload_n 0, 1) := by decide +kernel
theorem dX5_findFailure_95 : decode cX5_findFailure 95 = .ok (.getfield 25, 3) := by decide +kernel
theorem dX5_findFailure_98 : decode cX5_findFailure 98 = .ok (.ireturn, 1) := by decide +kernel
set_option maxRecDepth 20000 in
theorem ggX5_readPart_X5_isDigit : GoodIn wsX5_readPart wsX5_isDigit := goodIn_r _ [10, 4, 3, 15, 16, 17, 18, 19] (by decide +kernel) (by decide +kernel)
set_option maxRecDepth 20000 in
theorem gX5_readPart_X5_isDigit : GoodIn wsX5_readPart (wsV RX5 32 RX5 yX5_isDigit wsX5_isDigit) := goodIn_app (goodIn_of _ (by decide +kernel)) ggX5_readPart_X5_isDigit
set_option maxRecDepth 20000 in
theorem ggX5_readPart_X5_readTimes : GoodIn wsX5_readPart wsX5_readTimes := goodIn_r _ [14, 2, 3, 6, 7, 8, 9, 10, 4, 15, 16, 17, 18, 19] (by decide +kernel) (by decide +kernel)
set_option maxRecDepth 20000 in
theorem gX5_readPart_X5_readTimes : GoodIn wsX5_readPart (wsV RX5 36 RX5 yX5_readTimes wsX5_readTimes) := goodIn_app (goodIn_of _ (by decide +kernel)) ggX5_readPart_X5_readTimes
theorem dX5_readPart_0 : decode cX5_readPart 0 = .ok (.aload_n 0, 1) := by decide +kernel
theorem dX5_readPart_1 : decode cX5_readPart 1 = .ok (.getfield 22, 3) := by decide +kernel
theorem dX5_readPart_4 : decode cX5_readPart 4 = .ok (.bipush 24, 2) := by decide +kernel
theorem dX5_readPart_6 : decode cX5_readPart 6 = .ok (.if_icmp .ge 14, 3) := by decide +kernel
theorem dX5_readPart_9 : decode cX5_readPart 9 = .ok (.aload_n 0, 1) := by decide +kernel
theorem dX5_readPart_10 : decode cX5_readPart 10 = .ok (.aload_n 0, 1) := by decide +kernel
theorem dX5_readPart_11 : decode cX5_readPart 11 = .ok (.getfield 25, 3) := by decide +kernel
theorem dX5_readPart_14 : decode cX5_readPart 14 = .ok (.invokevirtual 32, 3) := by decide +kernel
theorem dX5_readPart_17 : decode cX5_readPart 17 = .ok (.ifCond .ne 8, 3) := by decide +kernel
theorem dX5_readPart_20 : decode cX5_readPart 20 = .ok (.aload_n 0, 1) := by decide +kernel
theorem dX5_readPart_21 : decode cX5_readPart 21 = .ok (.getfield 25, 3) := by decide +kernel
theorem dX5_readPart_24 : decode cX5_readPart 24 = .ok (.ireturn, 1) := by decide +kernel
theorem dX5_readPart_25 : decode cX5_readPart 25 = .ok (.aload_n 0, 1) := by decide +kernel
theorem dX5_readPart_26 : decode cX5_readPart 26 = .ok (.getfield 15, 3) := by decide +kernel
theorem dX5_readPart_29 : decode cX5_readPart 29 = .ok (.aload_n 0, 1) := by decide +kernel
theorem dX5_readPart_30 : decode cX5_readPart 30 = .ok (.getfield 25, 3) := by decide +kernel
theorem dX5_readPart_33 : decode cX5_readPart 33 = .ok (.iaload, 1) := by decide +kernel
theorem dX5_readPart_34 : decode cX5_readPart 34 = .ok (.bipush 48, 2) := by decide +kernel
theorem dX5_readPart_36 : decode cX5_readPart 36 = .ok (.isub, 1) := by decide +kernel
theorem dX5_readPart_37 : decode cX5_readPart 37 = .ok (.istore_n 1, 1) := by decide +kernel
theorem dX5_readPart_38 : decode cX5_readPart 38 = .ok (.aload_n 0, 1) := by decide +kernel
theorem dX5_readPart_39 : decode cX5_readPart 39 = .ok (.dup, 1) := by decide +kernel
theorem dX5_readPart_40 : decode cX5_readPart 40 = .ok (.getfield 25, 3) := by decide +kernel
theorem dX5_readPart_43 : decode cX5_readPart 43 = .ok (.iconst 1, 1) := by decide +kernel
theorem dX5_readPart_44 : decode cX5_readPart 44 = .ok (.iadd, 1) := by decide +kernel
theorem dX5_readPart_45 : decode cX5_readPart 45 = .ok (.putfield 25, 3) := by decide +kernel
theorem dX5_readPart_48 : decode cX5_readPart 48 = .ok (.iconst 1, 1) := by decide +kernel
theorem dX5_readPart_49 : decode cX5_readPart 49 = .ok (.istore_n 2, 1) := by decide +kernel
theorem dX5_readPart_50 : decode cX5_readPart 50 = .ok (.aload_n 0, 1) := by decide +kernel
theorem dX5_readPart_51 : decode cX5_readPart 51 = .ok (.getfield 25, 3) := by decide +kernel
theorem dX5_readPart_54 : decode cX5_readPart 54 = .ok (.aload_n 0, 1) := by decide +kernel
theorem dX5_readPart_55 : decode cX5_readPart 55 = .ok (.getfield 9, 3) := by decide +kernel
theorem dX5_readPart_58 : decode cX5_readPart 58 = .ok (.if_icmp .ge 52, 3) := by decide +kernel
theorem dX5_readPart_61 : decode cX5_readPart 61 = .ok (.aload_n 0, 1) := by decide +kernel
theorem dX5_readPart_62 : decode cX5_readPart 62 = .ok (.getfield 15, 3) := by decide +kernel
theorem dX5_readPart_65 : decode cX5_readPart 65 = .ok (.aload_n 0, 1) := by decide +kernel
theorem dX5_readPart_66 : decode cX5_readPart 66 = .ok (.getfield 25, 3) := by decide +kernel
theorem dX5_readPart_69 : decode cX5_readPart 69 = .ok (.iaload, 1) := by decide +kernel
theorem dX5_readPart_70 : decode cX5_readPart 70 = .ok (.bipush 120, 2) := by decide +kernel
theorem dX5_readPart_72 : decode cX5_readPart 72 = .ok (.if_icmp .ne 38, 3) := by decide +kernel
theorem dX5_readPart_75 : decode cX5_readPart 75 = .ok (.aload_n 0, 1) := by decide +kernel
theorem dX5_readPart_76 : decode cX5_readPart 76 = .ok (.getfield 25, 3) := by decide +kernel
theorem dX5_readPart_79 : decode cX5_readPart 79 = .ok (.iconst 1, 1) := by decide +kernel
theorem dX5_readPart_80 : decode cX5_readPart 80 = .ok (.iadd, 1) := by decide +kernel
theorem dX5_readPart_81 : decode cX5_readPart 81 = .ok (.istore_n 3, 1) := by decide +kernel
theorem dX5_readPart_82 : decode cX5_readPart 82 = .ok (.aload_n 0, 1) := by decide +kernel
theorem dX5_readPart_83 : decode cX5_readPart 83 = .ok (.iload_n 3, 1) := by decide +kernel
theorem dX5_readPart_84 : decode cX5_readPart 84 = .ok (.invokevirtual 36, 3) := by decide +kernel
theorem dX5_readPart_87 : decode cX5_readPart 87 = .ok (.istore_n 2, 1) := by decide +kernel
theorem dX5_readPart_88 : decode cX5_readPart 88 = .ok (.iload_n 2, 1) := by decide +kernel
theorem dX5_readPart_89 : decode cX5_readPart 89 = .ok (.ifCond .gt 8, 3) := by decide +kernel
theorem dX5_readPart_92 : decode cX5_readPart 92 = .ok (.aload_n 0, 1) := by decide +kernel
theorem dX5_readPart_93 : decode cX5_readPart 93 = .ok (.getfield 25, 3) := by decide +kernel
theorem dX5_readPart_96 : decode cX5_readPart 96 = .ok (.ireturn, 1) := by decide +kernel
theorem dX5_readPart_97 : decode cX5_readPart 97 = .ok (.aload_n 0, 1) := by decide +kernel
theorem dX5_readPart_98 : decode cX5_readPart 98 = .ok (.getfield 22, 3) := by decide +kernel
theorem dX5_readPart_101 : decode cX5_readPart 101 = .ok (.iload_n 2, 1) := by decide +kernel
theorem dX5_readPart_102 : decode cX5_readPart 102 = .ok (.iadd, 1) := by decide +kernel
theorem dX5_readPart_103 : decode cX5_readPart 103 = .ok (.bipush 24, 2) := by decide +kernel
theorem dX5_readPart_105 : decode cX5_readPart 105 = .ok (.if_icmp .le 5, 3) := by decide +kernel
theorem dX5_readPart_108 : decode cX5_readPart 108 = .ok (.iload_n 3, 1) := by decide +kernel
theorem dX5_readPart_109 : decode cX5_readPart 109 = .ok (.ireturn, 1) := by decide +kernel
theorem dX5_readPart_110 : decode cX5_readPart 110 = .ok (.iconst 0, 1) := by decide +kernel
theorem dX5_readPart_111 : decode cX5_readPart 111 = .ok (.istore_n 3, 1) := by decide +kernel
theorem dX5_readPart_112 : decode cX5_readPart 112 = .ok (.iload_n 3, 1) := by decide +kernel
theorem dX5_readPart_113 : decode cX5_readPart 113 = .ok (.iload_n 2, 1) := by decide +kernel
theorem dX5_readPart_114 : decode cX5_readPart 114 = .ok (.if_icmp .ge 38, 3) := by decide +kernel
theorem dX5_readPart_117 : decode cX5_readPart 117 = .ok (.aload_n 0, 1) := by decide +kernel
theorem dX5_readPart_118 : decode cX5_readPart 118 = .ok (.getfield 22, 3) := by decide +kernel
theorem dX5_readPart_121 : decode cX5_readPart 121 = .ok (.bipush 24, 2) := by decide +kernel
theorem dX5_readPart_123 : decode cX5_readPart 123 = .ok (.if_icmp .ge 29, 3) := by decide +kernel
theorem dX5_readPart_126 : decode cX5_readPart 126 = .ok (.aload_n 0, 1) := by decide +kernel
theorem dX5_readPart_127 : decode cX5_readPart 127 = .ok (.getfield 19, 3) := by decide +kernel
theorem dX5_readPart_130 : decode cX5_readPart 130 = .ok (.aload_n 0, 1) := by decide +kernel
theorem dX5_readPart_131 : decode cX5_readPart 131 = .ok (.getfield 22, 3) := by decide +kernel
theorem dX5_readPart_134 : decode cX5_readPart 134 = .ok (.iload_n 1, 1) := by decide +kernel
theorem dX5_readPart_135 : decode cX5_readPart 135 = .ok (.iastore, 1) := by decide +kernel
theorem dX5_readPart_136 : decode cX5_readPart 136 = .ok (.aload_n 0, 1) := by decide +kernel
theorem dX5_readPart_137 : decode cX5_readPart 137 = .ok (.dup, 1) := by decide +kernel
theorem dX5_readPart_138 : decode cX5_readPart 138 = .ok (.getfield 22, 3) := by decide +kernel
theorem dX5_readPart_141 : decode cX5_readPart 141 = .ok (.iconst 1, 1) := by decide +kernel
theorem dX5_readPart_142 : decode cX5_readPart 142 = .ok (.iadd, 1) := by decide +kernel
theorem dX5_readPart_143 : decode cX5_readPart 143 = .ok (.putfield 22, 3) := by decide +kernel
theorem dX5_readPart_146 : decode cX5_readPart 146 = .ok (.iinc 3 1, 3) := by decide +kernel
theorem dX5_readPart_149 : decode cX5_readPart 149 = .ok (.goto (-37), 3) := by decide +kernel
theorem dX5_readPart_152 : decode cX5_readPart 152 = .ok (.iconst (-1), 1) := by decide +kernel
theorem dX5_readPart_153 : decode cX5_readPart 153 = .ok (.ireturn, 1) := by decide +kernel
set_option maxRecDepth 20000 in
theorem ggX5_readTimes_X5_isDigit : GoodIn wsX5_readTimes wsX5_isDigit := goodIn_r _ [7, 8, 2, 9, 10, 11, 12, 13] (by decide +kernel) (by decide +kernel)
set_option maxRecDepth 20000 in
theorem gX5_readTimes_X5_isDigit : GoodIn wsX5_readTimes (wsV RX5 32 RX5 yX5_isDigit wsX5_isDigit) := goodIn_app (goodIn_of _ (by decide +kernel)) ggX5_readTimes_X5_isDigit
theorem dX5_readTimes_0 : decode cX5_readTimes 0 = .ok (.aload_n 0, 1) := by decide +kernel
theorem dX5_readTimes_1 : decode cX5_readTimes 1 = .ok (.iload_n 1, 1) := by decide +kernel
theorem dX5_readTimes_2 : decode cX5_readTimes 2 = .ok (.putfield 25, 3) := by decide +kernel
theorem dX5_readTimes_5 : decode cX5_readTimes 5 = .ok (.aload_n 0, 1) := by decide +kernel
theorem dX5_readTimes_6 : decode cX5_readTimes 6 = .ok (.iload_n 1, 1) := by decide +kernel
theorem dX5_readTimes_7 : decode cX5_readTimes 7 = .ok (.invokevirtual 32, 3) := by decide +kernel
theorem dX5_readTimes_10 : decode cX5_readTimes 10 = .ok (.ifCond .eq 14, 3) := by decide +kernel
theorem dX5_readTimes_13 : decode cX5_readTimes 13 = .ok (.aload_n 0, 1) := by decide +kernel
theorem dX5_readTimes_14 : decode cX5_readTimes 14 = .ok (.getfield 15, 3) := by decide +kernel
theorem dX5_readTimes_17 : decode cX5_readTimes 17 = .ok (.iload_n 1, 1) := by decide +kernel
theorem dX5_readTimes_18 : decode cX5_readTimes 18 = .ok (.iaload, 1) := by decide +kernel
theorem dX5_readTimes_19 : decode cX5_readTimes 19 = .ok (.bipush 48, 2) := by decide +kernel
theorem dX5_readTimes_21 : decode cX5_readTimes 21 = .ok (.if_icmp .ne 5, 3) := by decide +kernel
theorem dX5_readTimes_24 : decode cX5_readTimes 24 = .ok (.iconst 0, 1) := by decide +kernel
theorem dX5_readTimes_25 : decode cX5_readTimes 25 = .ok (.ireturn, 1) := by decide +kernel
theorem dX5_readTimes_26 : decode cX5_readTimes 26 = .ok (.aload_n 0, 1) := by decide +kernel
theorem dX5_readTimes_27 : decode cX5_readTimes 27 = .ok (.getfield 15, 3) := by decide +kernel
theorem dX5_readTimes_30 : decode cX5_readTimes 30 = .ok (.iload_n 1, 1) := by decide +kernel
theorem dX5_readTimes_31 : decode cX5_readTimes 31 = .ok (.iaload, 1) := by decide +kernel
theorem dX5_readTimes_32 : decode cX5_readTimes 32 = .ok (.bipush 48, 2) := by decide +kernel
theorem dX5_readTimes_34 : decode cX5_readTimes 34 = .ok (.isub, 1) := by decide +kernel
theorem dX5_readTimes_35 : decode cX5_readTimes 35 = .ok (.istore_n 2, 1) := by decide +kernel
theorem dX5_readTimes_36 : decode cX5_readTimes 36 = .ok (.aload_n 0, 1) := by decide +kernel
theorem dX5_readTimes_37 : decode cX5_readTimes 37 = .ok (.dup, 1) := by decide +kernel
theorem dX5_readTimes_38 : decode cX5_readTimes 38 = .ok (.getfield 25, 3) := by decide +kernel
theorem dX5_readTimes_41 : decode cX5_readTimes 41 = .ok (.iconst 1, 1) := by decide +kernel
theorem dX5_readTimes_42 : decode cX5_readTimes 42 = .ok (.iadd, 1) := by decide +kernel
theorem dX5_readTimes_43 : decode cX5_readTimes 43 = .ok (.putfield 25, 3) := by decide +kernel
theorem dX5_readTimes_46 : decode cX5_readTimes 46 = .ok (.aload_n 0, 1) := by decide +kernel
theorem dX5_readTimes_47 : decode cX5_readTimes 47 = .ok (.aload_n 0, 1) := by decide +kernel
theorem dX5_readTimes_48 : decode cX5_readTimes 48 = .ok (.getfield 25, 3) := by decide +kernel
theorem dX5_readTimes_51 : decode cX5_readTimes 51 = .ok (.invokevirtual 32, 3) := by decide +kernel
theorem dX5_readTimes_54 : decode cX5_readTimes 54 = .ok (.ifCond .eq 44, 3) := by decide +kernel
theorem dX5_readTimes_57 : decode cX5_readTimes 57 = .ok (.bipush 10, 2) := by decide +kernel
theorem dX5_readTimes_59 : decode cX5_readTimes 59 = .ok (.iload_n 2, 1) := by decide +kernel
theorem dX5_readTimes_60 : decode cX5_readTimes 60 = .ok (.imul, 1) := by decide +kernel
theorem dX5_readTimes_61 : decode cX5_readTimes 61 = .ok (.aload_n 0, 1) := by decide +kernel
theorem dX5_readTimes_62 : decode cX5_readTimes 62 = .ok (.getfield 15, 3) := by decide +kernel
theorem dX5_readTimes_65 : decode cX5_readTimes 65 = .ok (.aload_n 0, 1) := by decide +kernel
theorem dX5_readTimes_66 : decode cX5_readTimes 66 = .ok (.getfield 25, 3) := by decide +kernel
theorem dX5_readTimes_69 : decode cX5_readTimes 69 = .ok (.iaload, 1) := by decide +kernel
theorem dX5_readTimes_70 : decode cX5_readTimes 70 = .ok (.iadd, 1) := by decide +kernel
theorem dX5_readTimes_71 : decode cX5_readTimes 71 = .ok (.bipush 48, 2) := by decide +kernel
theorem dX5_readTimes_73 : decode cX5_readTimes 73 = .ok (.isub, 1) := by decide +kernel
theorem dX5_readTimes_74 : decode cX5_readTimes 74 = .ok (.istore_n 2, 1) := by decide +kernel
theorem dX5_readTimes_75 : decode cX5_readTimes 75 = .ok (.aload_n 0, 1) := by decide +kernel
theorem dX5_readTimes_76 : decode cX5_readTimes 76 = .ok (.dup, 1) := by decide +kernel
theorem dX5_readTimes_77 : decode cX5_readTimes 77 = .ok (.getfield 25, 3) := by decide +kernel
theorem dX5_readTimes_80 : decode cX5_readTimes 80 = .ok (.iconst 1, 1) := by decide +kernel
theorem dX5_readTimes_81 : decode cX5_readTimes 81 = .ok (.iadd, 1) := by decide +kernel
theorem dX5_readTimes_82 : decode cX5_readTimes 82 = .ok (.putfield 25, 3) := by decide +kernel
theorem dX5_readTimes_85 : decode cX5_readTimes 85 = .ok (.aload_n 0, 1) := by decide +kernel
theorem dX5_readTimes_86 : decode cX5_readTimes 86 = .ok (.aload_n 0, 1) := by decide +kernel
theorem dX5_readTimes_87 : decode cX5_readTimes 87 = .ok (.getfield 25, 3) := by decide +kernel
theorem dX5_readTimes_90 : decode cX5_readTimes 90 = .ok (.invokevirtual 32, 3) := by decide +kernel
theorem dX5_readTimes_93 : decode cX5_readTimes 93 = .ok (.ifCond .eq 5, 3) := by decide +kernel
theorem dX5_readTimes_96 : decode cX5_readTimes 96 = .ok (.iconst 0, 1) := by decide +kernel
theorem dX5_readTimes_97 : decode cX5_readTimes 97 = .ok (.ireturn, 1) := by decide +kernel
theorem dX5_readTimes_98 : decode cX5_readTimes 98 = .ok (.iload_n 2, 1) := by decide +kernel
theorem dX5_readTimes_99 : decode cX5_readTimes 99 = .ok (.ireturn, 1) := by decide +kernel
theorem dX5_isDigit_0 : decode cX5_isDigit 0 = .ok (.iload_n 1, 1) := by decide +kernel
theorem dX5_isDigit_1 : decode cX5_isDigit 1 = .ok (.ifCond .lt 37, 3) := by decide +kernel
theorem dX5_isDigit_4 : decode cX5_isDigit 4 = .ok (.iload_n 1, 1) := by decide +kernel
theorem dX5_isDigit_5 : decode cX5_isDigit 5 = .ok (.aload_n 0, 1) := by decide +kernel
theorem dX5_isDigit_6 : decode cX5_isDigit 6 = .ok (.getfield 9, 3) := by decide +kernel
theorem dX5_isDigit_9 : decode cX5_isDigit 9 = .ok (.if_icmp .ge 29, 3) := by decide +kernel
theorem dX5_isDigit_12 : decode cX5_isDigit 12 = .ok (.aload_n 0, 1) := by decide +kernel
theorem dX5_isDigit_13 : decode cX5_isDigit 13 = .ok (.getfield 15, 3) := by decide +kernel
theorem dX5_isDigit_16 : decode cX5_isDigit 16 = .ok (.iload_n 1, 1) := by decide +kernel
theorem dX5_isDigit_17 : decode cX5_isDigit 17 = .ok (.iaload, 1) := by decide +kernel
theorem dX5_isDigit_18 : decode cX5_isDigit 18 = .ok (.bipush 48, 2) := by decide +kernel
theorem dX5_isDigit_20 : decode cX5_isDigit 20 = .ok (.if_icmp .lt 18, 3) := by decide +kernel
theorem dX5_isDigit_23 : decode cX5_isDigit 23 = .ok (.aload_n 0, 1) := by decide +kernel
theorem dX5_isDigit_24 : decode cX5_isDigit 24 = .ok (.getfield 15, 3) := by decide +kernel
theorem dX5_isDigit_27 : decode cX5_isDigit 27 = .ok (.iload_n 1, 1) := by decide +kernel
theorem dX5_isDigit_28 : decode cX5_isDigit 28 = .ok (.iaload, 1) := by decide +kernel
theorem dX5_isDigit_29 : decode cX5_isDigit 29 = .ok (.bipush 57, 2) := by decide +kernel
theorem dX5_isDigit_31 : decode cX5_isDigit 31 = .ok (.if_icmp .gt 7, 3) := by decide +kernel
theorem dX5_isDigit_34 : decode cX5_isDigit 34 = .ok (.iconst 1, 1) := by decide +kernel
theorem dX5_isDigit_35 : decode cX5_isDigit 35 = .ok (.goto 4, 3) := by decide +kernel
theorem dX5_isDigit_38 : decode cX5_isDigit 38 = .ok (.iconst 0, 1) := by decide +kernel
theorem dX5_isDigit_39 : decode cX5_isDigit 39 = .ok (.ireturn, 1) := by decide +kernel
set_option maxRecDepth 20000 in
theorem ggX6_init_X0_init : GoodIn wsX6_init wsX0_init := goodIn_r _ [29, 30, 2, 3, 31, 32, 33, 34, 35, 81, 82, 83] (by decide +kernel) (by decide +kernel)
set_option maxRecDepth 20000 in
theorem gX6_init_X0_init : GoodIn wsX6_init (wsX0_init) := ggX6_init_X0_init
set_option maxRecDepth 20000 in
theorem ggX6_init_X5_init : GoodIn wsX6_init wsX5_init := goodIn_r _ [37, 38, 2, 3, 39, 32, 40, 41, 42, 43, 92, 93, 94, 95, 96] (by decide +kernel) (by decide +kernel)
set_option maxRecDepth 20000 in
theorem gX6_init_X5_init_n26 : GoodIn wsX6_init (wsX5_init) := ggX6_init_X5_init
set_option maxRecDepth 20000 in
theorem ggX6_init_X2_init : GoodIn wsX6_init wsX2_init := goodIn_r _ [45, 46, 2, 3, 32, 47, 97] (by decide +kernel) (by decide +kernel)
set_option maxRecDepth 20000 in
theorem gX6_init_X2_init_n33 : GoodIn wsX6_init (wsX2_init) := ggX6_init_X2_init
set_option maxRecDepth 20000 in
theorem ggX6_init_X3_init : GoodIn wsX6_init wsX3_init := goodIn_r _ [49, 50, 2, 3, 51, 52, 53, 54, 32, 55, 56, 57, 58, 59, 60, 61, 114, 115, 116, 98, 99] (by decide +kernel) (by decide +kernel)
set_option maxRecDepth 20000 in
theorem gX6_init_X3_init_n40 : GoodIn wsX6_init (wsX3_init) := ggX6_init_X3_init
set_option maxRecDepth 20000 in
theorem ggX6_init_X1_init : GoodIn wsX6_init wsX1_init := goodIn_r _ [63, 64, 2, 3, 65, 66, 67, 32, 68, 69, 70, 71, 72, 73, 52, 53, 74, 75, 76, 77, 78, 79, 80, 56, 57, 58, 59, 60, 61, 100, 101, 102, 103, 104, 105, 106, 107, 108, 109, 110, 111, 112, 113, 114, 115, 116] (by decide +kernel) (by decide +kernel)
set_option maxRecDepth 20000 in
theorem gX6_init_X1_init_n47 : GoodIn wsX6_init (wsX1_init) := ggX6_init_X1_init
theorem dX6_init_0 : decode cX6_init 0 = .ok (.aload_n 0, 1) := by decide +kernel
theorem dX6_init_1 : decode cX6_init 1 = .ok (.invokespecial 1, 3) := by decide +kernel
theorem dX6_init_4 : decode cX6_init 4 = .ok (.aload_n 0, 1) := by decide +kernel
theorem dX6_init_5 : decode cX6_init 5 = .ok (.new 7, 3) := by decide +kernel
theorem dX6_init_8 : decode cX6_init 8 = .ok (.dup, 1) := by decide +kernel
theorem dX6_init_9 : decode cX6_init 9 = .ok (.invokespecial 9, 3) := by decide +kernel
theorem dX6_init_12 : decode cX6_init 12 = .ok (.putfield 10, 3) := by decide +kernel
theorem dX6_init_15 : decode cX6_init 15 = .ok (.aload_n 0, 1) := by decide +kernel
theorem dX6_init_16 : decode cX6_init 16 = .ok (.iconst 5, 1) := by decide +kernel
theorem dX6_init_17 : decode cX6_init 17 = .ok (.anewarray 7, 3) := by decide +kernel
theorem dX6_init_20 : decode cX6_init 20 = .ok (.putfield 16, 3) := by decide +kernel
theorem dX6_init_23 : decode cX6_init 23 = .ok (.aload_n 0, 1) := by decide +kernel
theorem dX6_init_24 : decode cX6_init 24 = .ok (.iconst 0, 1) := by decide +kernel
theorem dX6_init_25 : decode cX6_init 25 = .ok (.putfield 20, 3) := by decide +kernel
theorem dX6_init_28 : decode cX6_init 28 = .ok (.aload_n 0, 1) := by decide +kernel
theorem dX6_init_29 : decode cX6_init 29 = .ok (.new 24, 3) := by decide +kernel
theorem dX6_init_32 : decode cX6_init 32 = .ok (.dup, 1) := by decide +kernel
theorem dX6_init_33 : decode cX6_init 33 = .ok (.invokespecial 26, 3) := by decide +kernel
theorem dX6_init_36 : decode cX6_init 36 = .ok (.putfield 27, 3) := by decide +kernel
theorem dX6_init_39 : decode cX6_init 39 = .ok (.aload_n 0, 1) := by decide +kernel
theorem dX6_init_40 : decode cX6_init 40 = .ok (.new 31, 3) := by decide +kernel
theorem dX6_init_43 : decode cX6_init 43 = .ok (.dup, 1) := by decide +kernel
theorem dX6_init_44 : decode cX6_init 44 = .ok (.invokespecial 33, 3) := by decide +kernel
theorem dX6_init_47 : decode cX6_init 47 = .ok (.putfield 34, 3) := by decide +kernel
theorem dX6_init_50 : decode cX6_init 50 = .ok (.aload_n 0, 1) := by decide +kernel
theorem dX6_init_51 : decode cX6_init 51 = .ok (.new 38, 3) := by decide +kernel
theorem dX6_init_54 : decode cX6_init 54 = .ok (.dup, 1) := by decide +kernel
theorem dX6_init_55 : decode cX6_init 55 = .ok (.invokespecial 40, 3) := by decide +kernel
theorem dX6_init_58 : decode cX6_init 58 = .ok (.putfield 41, 3) := by decide +kernel
theorem dX6_init_61 : decode cX6_init 61 = .ok (.aload_n 0, 1) := by decide +kernel
theorem dX6_init_62 : decode cX6_init 62 = .ok (.new 45, 3) := by decide +kernel
theorem dX6_init_65 : decode cX6_init 65 = .ok (.dup, 1) := by decide +kernel
theorem dX6_init_66 : decode cX6_init 66 = .ok (.invokespecial 47, 3) := by decide +kernel
theorem dX6_init_69 : decode cX6_init 69 = .ok (.putfield 48, 3) := by decide +kernel
theorem dX6_init_72 : decode cX6_init 72 = .ok (.aload_n 0, 1) := by decide +kernel
theorem dX6_init_73 : decode cX6_init 73 = .ok (.iconst 0, 1) := by decide +kernel
theorem dX6_init_74 : decode cX6_init 74 = .ok (.putfield 52, 3) := by decide +kernel
theorem dX6_init_77 : decode cX6_init 77 = .ok (.iconst 0, 1) := by decide +kernel
theorem dX6_init_78 : decode cX6_init 78 = .ok (.istore_n 1, 1) := by decide +kernel
theorem dX6_init_79 : decode cX6_init 79 = .ok (.iload_n 1, 1) := by decide +kernel
theorem dX6_init_80 : decode cX6_init 80 = .ok (.iconst 5, 1) := by decide +kernel
theorem dX6_init_81 : decode cX6_init 81 = .ok (.if_icmp .ge 22, 3) := by decide +kernel
theorem dX6_init_84 : decode cX6_init 84 = .ok (.aload_n 0, 1) := by decide +kernel
theorem dX6_init_85 : decode cX6_init 85 = .ok (.getfield 16, 3) := by decide +kernel
theorem dX6_init_88 : decode cX6_init 88 = .ok (.iload_n 1, 1) := by decide +kernel
theorem dX6_init_89 : decode cX6_init 89 = .ok (.new 7, 3) := by decide +kernel
theorem dX6_init_92 : decode cX6_init 92 = .ok (.dup, 1) := by decide +kernel
theorem dX6_init_93 : decode cX6_init 93 = .ok (.invokespecial 9, 3) := by decide +kernel
theorem dX6_init_96 : decode cX6_init 96 = .ok (.aastore, 1) := by decide +kernel
theorem dX6_init_97 : decode cX6_init 97 = .ok (.iinc 1 1, 3) := by decide +kernel
theorem dX6_init_100 : decode cX6_init 100 = .ok (.goto (-21), 3) := by decide +kernel
theorem dX6_init_103 : decode cX6_init 103 = .ok (.return_, 1) := by decide +kernel
set_option maxRecDepth 20000 in
theorem ggX6_addGuest_X6_record : GoodIn wsX6_addGuest wsX6_record := goodIn_r _ [7, 8, 9, 1, 10, 11, 12, 13, 6, 14, 15, 16, 17, 18, 19, 20, 21, 22, 23, 24, 25, 26, 27, 28, 29, 30, 31, 32, 33, 34, 43, 44, 45, 46, 47, 48, 49, 50, 51, 52, 53] (by decide +kernel) (by decide +kernel)
set_option maxRecDepth 20000 in
theorem gX6_addGuest_X6_record : GoodIn wsX6_addGuest (wsV RX6 59 RX6 yX6_record wsX6_record) := goodIn_app (goodIn_of _ (by decide +kernel)) ggX6_addGuest_X6_record
set_option maxRecDepth 20000 in
theorem ggX6_addGuest_X0_seatGuest : GoodIn wsX6_addGuest wsX0_seatGuest := goodIn_r _ [38, 20, 39, 40, 41, 18, 42, 22, 51, 52, 53] (by decide +kernel) (by decide +kernel)
set_option maxRecDepth 20000 in
theorem gX6_addGuest_X0_seatGuest : GoodIn wsX6_addGuest (wsV RX6 62 RX0 yX0_seatGuest wsX0_seatGuest) := goodIn_app (goodIn_of _ (by decide +kernel)) ggX6_addGuest_X0_seatGuest
theorem dX6_addGuest_0 : decode cX6_addGuest 0 = .ok (.aload_n 0, 1) := by decide +kernel
theorem dX6_addGuest_1 : decode cX6_addGuest 1 = .ok (.getfield 10, 3) := by decide +kernel
theorem dX6_addGuest_4 : decode cX6_addGuest 4 = .ok (.getfield 56, 3) := by decide +kernel
theorem dX6_addGuest_7 : decode cX6_addGuest 7 = .ok (.iconst 4, 1) := by decide +kernel
theorem dX6_addGuest_8 : decode cX6_addGuest 8 = .ok (.if_icmp .lt 6, 3) := by decide +kernel
theorem dX6_addGuest_11 : decode cX6_addGuest 11 = .ok (.bipush (-3), 2) := by decide +kernel
theorem dX6_addGuest_13 : decode cX6_addGuest 13 = .ok (.ireturn, 1) := by decide +kernel
theorem dX6_addGuest_14 : decode cX6_addGuest 14 = .ok (.aload_n 0, 1) := by decide +kernel
theorem dX6_addGuest_15 : decode cX6_addGuest 15 = .ok (.invokevirtual 59, 3) := by decide +kernel
theorem dX6_addGuest_18 : decode cX6_addGuest 18 = .ok (.aload_n 0, 1) := by decide +kernel
theorem dX6_addGuest_19 : decode cX6_addGuest 19 = .ok (.getfield 10, 3) := by decide +kernel
theorem dX6_addGuest_22 : decode cX6_addGuest 22 = .ok (.invokevirtual 62, 3) := by decide +kernel
theorem dX6_addGuest_25 : decode cX6_addGuest 25 = .ok (.ireturn, 1) := by decide +kernel
set_option maxRecDepth 20000 in
theorem ggX6_setValue_X0_isGuest : GoodIn wsX6_setValue wsX0_isGuest := goodIn_r _ [6, 7, 61, 62, 63] (by decide +kernel) (by decide +kernel)
set_option maxRecDepth 20000 in
theorem gX6_setValue_X0_isGuest : GoodIn wsX6_setValue (wsV RX6 66 RX0 yX0_isGuest wsX0_isGuest) := goodIn_app (goodIn_of _ (by decide +kernel)) ggX6_setValue_X0_isGuest
set_option maxRecDepth 20000 in
theorem ggX6_setValue_X6_isSpan : GoodIn wsX6_setValue wsX6_isSpan := goodIn_r _ [11] (by decide +kernel) (by decide +kernel)
set_option maxRecDepth 20000 in
theorem gX6_setValue_X6_isSpan : GoodIn wsX6_setValue (va_wsS RX6 70 yX6_isSpan wsX6_isSpan) := goodIn_app (goodIn_of _ (by decide +kernel)) ggX6_setValue_X6_isSpan
set_option maxRecDepth 20000 in
theorem ggX6_setValue_X6_record : GoodIn wsX6_setValue wsX6_record := goodIn_r _ [15, 16, 17, 1, 18, 19, 20, 21, 10, 22, 23, 24, 25, 5, 26, 7, 27, 28, 29, 30, 31, 32, 33, 34, 35, 36, 37, 38, 39, 40, 53, 54, 55, 56, 57, 58, 59, 60, 61, 62, 63] (by decide +kernel) (by decide +kernel)
set_option maxRecDepth 20000 in
theorem gX6_setValue_X6_record : GoodIn wsX6_setValue (wsV RX6 59 RX6 yX6_record wsX6_record) := goodIn_app (goodIn_of _ (by decide +kernel)) ggX6_setValue_X6_record
set_option maxRecDepth 20000 in
theorem ggX6_setValue_X0_setValues : GoodIn wsX6_setValue wsX0_setValues := goodIn_r _ [44, 28, 61, 62, 63] (by decide +kernel) (by decide +kernel)
set_option maxRecDepth 20000 in
theorem gX6_setValue_X0_setValues : GoodIn wsX6_setValue (wsV RX6 74 RX0 yX0_setValues wsX0_setValues) := goodIn_app (goodIn_of _ (by decide +kernel)) ggX6_setValue_X0_setValues
set_option maxRecDepth 20000 in
theorem ggX6_setValue_X0_total : GoodIn wsX6_setValue wsX0_total := goodIn_r _ [48, 49, 50, 51, 5, 52, 28, 61, 62, 63] (by decide +kernel) (by decide +kernel)
set_option maxRecDepth 20000 in
theorem gX6_setValue_X0_total : GoodIn wsX6_setValue (wsV RX6 78 RX0 yX0_total wsX0_total) := goodIn_app (goodIn_of _ (by decide +kernel)) ggX6_setValue_X0_total
theorem dX6_setValue_0 : decode cX6_setValue 0 = .ok (.aload_n 0, 1) := by decide +kernel
theorem dX6_setValue_1 : decode cX6_setValue 1 = .ok (.getfield 10, 3) := by decide +kernel
theorem dX6_setValue_4 : decode cX6_setValue 4 = .ok (.iload_n 1, 1) := by decide +kernel
theorem dX6_setValue_5 : decode cX6_setValue 5 = .ok (.invokevirtual 66, 3) := by decide +kernel
theorem dX6_setValue_8 : decode cX6_setValue 8 = .ok (.ifCond .eq 23, 3) := by decide +kernel
theorem dX6_setValue_11 : decode cX6_setValue 11 = .ok (.iload_n 2, 1) := by decide +kernel
theorem dX6_setValue_12 : decode cX6_setValue 12 = .ok (.iload_n 3, 1) := by decide +kernel
theorem dX6_setValue_13 : decode cX6_setValue 13 = .ok (.invokestatic 70, 3) := by decide +kernel
theorem dX6_setValue_16 : decode cX6_setValue 16 = .ok (.ifCond .eq 15, 3) := by decide +kernel
theorem dX6_setValue_19 : decode cX6_setValue 19 = .ok (.iload 4, 2) := by decide +kernel
theorem dX6_setValue_21 : decode cX6_setValue 21 = .ok (.ifCond .lt 10, 3) := by decide +kernel
theorem dX6_setValue_24 : decode cX6_setValue 24 = .ok (.iload 4, 2) := by decide +kernel
theorem dX6_setValue_26 : decode cX6_setValue 26 = .ok (.bipush 9, 2) := by decide +kernel
theorem dX6_setValue_28 : decode cX6_setValue 28 = .ok (.if_icmp .le 5, 3) := by decide +kernel
theorem dX6_setValue_31 : decode cX6_setValue 31 = .ok (.iconst (-1), 1) := by decide +kernel
theorem dX6_setValue_32 : decode cX6_setValue 32 = .ok (.ireturn, 1) := by decide +kernel
theorem dX6_setValue_33 : decode cX6_setValue 33 = .ok (.aload_n 0, 1) := by decide +kernel
theorem dX6_setValue_34 : decode cX6_setValue 34 = .ok (.invokevirtual 59, 3) := by decide +kernel
theorem dX6_setValue_37 : decode cX6_setValue 37 = .ok (.aload_n 0, 1) := by decide +kernel
theorem dX6_setValue_38 : decode cX6_setValue 38 = .ok (.getfield 10, 3) := by decide +kernel
theorem dX6_setValue_41 : decode cX6_setValue 41 = .ok (.iload_n 1, 1) := by decide +kernel
theorem dX6_setValue_42 : decode cX6_setValue 42 = .ok (.iload_n 2, 1) := by decide +kernel
theorem dX6_setValue_43 : decode cX6_setValue 43 = .ok (.iload_n 3, 1) := by decide +kernel
theorem dX6_setValue_44 : decode cX6_setValue 44 = .ok (.iload 4, 2) := by decide +kernel
theorem dX6_setValue_46 : decode cX6_setValue 46 = .ok (.invokevirtual 74, 3) := by decide +kernel
theorem dX6_setValue_49 : decode cX6_setValue 49 = .ok (.aload_n 0, 1) := by decide +kernel
theorem dX6_setValue_50 : decode cX6_setValue 50 = .ok (.getfield 10, 3) := by decide +kernel
theorem dX6_setValue_53 : decode cX6_setValue 53 = .ok (.iload_n 1, 1) := by decide +kernel
theorem dX6_setValue_54 : decode cX6_setValue 54 = .ok (.invokevirtual 78, 3) := by decide +kernel
theorem dX6_setValue_57 : decode cX6_setValue 57 = .ok (.ireturn, 1) := by decide +kernel
set_option maxRecDepth 20000 in
theorem ggX6_read_X0_isGuest : GoodIn wsX6_read wsX0_isGuest := goodIn_r _ [8, 9, 84, 85, 86] (by decide +kernel) (by decide +kernel)
set_option maxRecDepth 20000 in
theorem gX6_read_X0_isGuest : GoodIn wsX6_read (wsV RX6 66 RX0 yX0_isGuest wsX0_isGuest) := goodIn_app (goodIn_of _ (by decide +kernel)) ggX6_read_X0_isGuest
set_option maxRecDepth 20000 in
theorem ggX6_read_X5_findFailure : GoodIn wsX6_read wsX5_findFailure := goodIn_r _ [14, 15, 16, 17, 18, 19, 20, 21, 13, 22, 23, 24, 25, 26, 27, 28, 29, 30, 31, 79, 80, 81, 82, 83] (by decide +kernel) (by decide +kernel)
set_option maxRecDepth 20000 in
theorem gX6_read_X5_findFailure : GoodIn wsX6_read (wsV RX6 88 RX5 yX5_findFailure wsX5_findFailure) := goodIn_app (goodIn_of _ (by decide +kernel)) ggX6_read_X5_findFailure
set_option maxRecDepth 20000 in
theorem ggX6_read_X6_record : GoodIn wsX6_read wsX6_record := goodIn_r _ [36, 37, 38, 1, 39, 40, 41, 42, 35, 43, 44, 45, 46, 7, 47, 9, 48, 49, 50, 51, 52, 53, 54, 55, 56, 57, 58, 59, 60, 61, 71, 72, 73, 74, 75, 76, 77, 78, 84, 85, 86] (by decide +kernel) (by decide +kernel)
set_option maxRecDepth 20000 in
theorem gX6_read_X6_record : GoodIn wsX6_read (wsV RX6 59 RX6 yX6_record wsX6_record) := goodIn_app (goodIn_of _ (by decide +kernel)) ggX6_read_X6_record
set_option maxRecDepth 20000 in
theorem ggX6_read_X0_takeValues : GoodIn wsX6_read wsX0_takeValues := goodIn_r _ [61, 49, 54, 55, 56, 57, 84, 85, 86] (by decide +kernel) (by decide +kernel)
set_option maxRecDepth 20000 in
theorem gX6_read_X0_takeValues : GoodIn wsX6_read (wsV RX6 95 RX0 yX0_takeValues wsX0_takeValues) := goodIn_app (goodIn_of _ (by decide +kernel)) ggX6_read_X0_takeValues
set_option maxRecDepth 20000 in
theorem ggX6_read_X0_total : GoodIn wsX6_read wsX0_total := goodIn_r _ [66, 67, 68, 69, 7, 70, 49, 84, 85, 86] (by decide +kernel) (by decide +kernel)
set_option maxRecDepth 20000 in
theorem gX6_read_X0_total : GoodIn wsX6_read (wsV RX6 78 RX0 yX0_total wsX0_total) := goodIn_app (goodIn_of _ (by decide +kernel)) ggX6_read_X0_total
theorem dX6_read_0 : decode cX6_read 0 = .ok (.aload_n 0, 1) := by decide +kernel
theorem dX6_read_1 : decode cX6_read 1 = .ok (.getfield 10, 3) := by decide +kernel
theorem dX6_read_4 : decode cX6_read 4 = .ok (.iload_n 1, 1) := by decide +kernel
theorem dX6_read_5 : decode cX6_read 5 = .ok (.invokevirtual 66, 3) := by decide +kernel
theorem dX6_read_8 : decode cX6_read 8 = .ok (.ifCond .ne 5, 3) := by decide +kernel
theorem dX6_read_11 : decode cX6_read 11 = .ok (.iconst (-1), 1) := by decide +kernel
theorem dX6_read_12 : decode cX6_read 12 = .ok (.ireturn, 1) := by decide +kernel
theorem dX6_read_13 : decode cX6_read 13 = .ok (.aload_n 0, 1) := by decide +kernel
theorem dX6_read_14 : decode cX6_read 14 = .ok (.getfield 27, 3) := by decide +kernel
theorem dX6_read_17 : decode cX6_read 17 = .ok (.invokevirtual 88, 3) := by decide +kernel
theorem dX6_read_20 : decode cX6_read 20 = .ok (.istore_n 2, 1) := by decide +kernel
theorem dX6_read_21 : decode cX6_read 21 = .ok (.iload_n 2, 1) := by decide +kernel
theorem dX6_read_22 : decode cX6_read 22 = .ok (.iconst (-1), 1) := by decide +kernel
theorem dX6_read_23 : decode cX6_read 23 = .ok (.if_icmp .eq 9, 3) := by decide +kernel
theorem dX6_read_26 : decode cX6_read 26 = .ok (.sipush (-1000), 3) := by decide +kernel
theorem dX6_read_29 : decode cX6_read 29 = .ok (.iload_n 2, 1) := by decide +kernel
theorem dX6_read_30 : decode cX6_read 30 = .ok (.isub, 1) := by decide +kernel
theorem dX6_read_31 : decode cX6_read 31 = .ok (.ireturn, 1) := by decide +kernel
theorem dX6_read_32 : decode cX6_read 32 = .ok (.aload_n 0, 1) := by decide +kernel
theorem dX6_read_33 : decode cX6_read 33 = .ok (.invokevirtual 59, 3) := by decide +kernel
theorem dX6_read_36 : decode cX6_read 36 = .ok (.aload_n 0, 1) := by decide +kernel
theorem dX6_read_37 : decode cX6_read 37 = .ok (.getfield 10, 3) := by decide +kernel
theorem dX6_read_40 : decode cX6_read 40 = .ok (.iload_n 1, 1) := by decide +kernel
theorem dX6_read_41 : decode cX6_read 41 = .ok (.aload_n 0, 1) := by decide +kernel
theorem dX6_read_42 : decode cX6_read 42 = .ok (.getfield 27, 3) := by decide +kernel
theorem dX6_read_45 : decode cX6_read 45 = .ok (.getfield 91, 3) := by decide +kernel
theorem dX6_read_48 : decode cX6_read 48 = .ok (.invokevirtual 95, 3) := by decide +kernel
theorem dX6_read_51 : decode cX6_read 51 = .ok (.aload_n 0, 1) := by decide +kernel
theorem dX6_read_52 : decode cX6_read 52 = .ok (.getfield 10, 3) := by decide +kernel
theorem dX6_read_55 : decode cX6_read 55 = .ok (.iload_n 1, 1) := by decide +kernel
theorem dX6_read_56 : decode cX6_read 56 = .ok (.invokevirtual 78, 3) := by decide +kernel
theorem dX6_read_59 : decode cX6_read 59 = .ok (.ireturn, 1) := by decide +kernel
set_option maxRecDepth 20000 in
theorem ggX6_give_X0_isGuest : GoodIn wsX6_give wsX0_isGuest := goodIn_r _ [6, 7, 53, 54, 55] (by decide +kernel) (by decide +kernel)
set_option maxRecDepth 20000 in
theorem gX6_give_X0_isGuest : GoodIn wsX6_give (wsV RX6 66 RX0 yX0_isGuest wsX0_isGuest) := goodIn_app (goodIn_of _ (by decide +kernel)) ggX6_give_X0_isGuest
set_option maxRecDepth 20000 in
theorem ggX6_give_X6_isSpan : GoodIn wsX6_give wsX6_isSpan := goodIn_r _ [11] (by decide +kernel) (by decide +kernel)
set_option maxRecDepth 20000 in
theorem gX6_give_X6_isSpan : GoodIn wsX6_give (va_wsS RX6 70 yX6_isSpan wsX6_isSpan) := goodIn_app (goodIn_of _ (by decide +kernel)) ggX6_give_X6_isSpan
set_option maxRecDepth 20000 in
theorem ggX6_give_X6_record : GoodIn wsX6_give wsX6_record := goodIn_r _ [15, 16, 17, 1, 18, 19, 20, 21, 10, 22, 23, 24, 25, 5, 26, 7, 27, 28, 29, 30, 31, 32, 33, 34, 35, 36, 37, 38, 39, 40, 45, 46, 47, 48, 49, 50, 51, 52, 53, 54, 55] (by decide +kernel) (by decide +kernel)
set_option maxRecDepth 20000 in
theorem gX6_give_X6_record : GoodIn wsX6_give (wsV RX6 59 RX6 yX6_record wsX6_record) := goodIn_app (goodIn_of _ (by decide +kernel)) ggX6_give_X6_record
set_option maxRecDepth 20000 in
theorem ggX6_give_X0_handOut : GoodIn wsX6_give wsX0_handOut := goodIn_r _ [44, 27, 53, 54, 55] (by decide +kernel) (by decide +kernel)
set_option maxRecDepth 20000 in
theorem gX6_give_X0_handOut : GoodIn wsX6_give (wsV RX6 99 RX0 yX0_handOut wsX0_handOut) := goodIn_app (goodIn_of _ (by decide +kernel)) ggX6_give_X0_handOut
theorem dX6_give_0 : decode cX6_give 0 = .ok (.aload_n 0, 1) := by decide +kernel
theorem dX6_give_1 : decode cX6_give 1 = .ok (.getfield 10, 3) := by decide +kernel
theorem dX6_give_4 : decode cX6_give 4 = .ok (.iload_n 1, 1) := by decide +kernel
theorem dX6_give_5 : decode cX6_give 5 = .ok (.invokevirtual 66, 3) := by decide +kernel
theorem dX6_give_8 : decode cX6_give 8 = .ok (.ifCond .eq 11, 3) := by decide +kernel
theorem dX6_give_11 : decode cX6_give 11 = .ok (.iload_n 2, 1) := by decide +kernel
theorem dX6_give_12 : decode cX6_give 12 = .ok (.iload_n 3, 1) := by decide +kernel
theorem dX6_give_13 : decode cX6_give 13 = .ok (.invokestatic 70, 3) := by decide +kernel
theorem dX6_give_16 : decode cX6_give 16 = .ok (.ifCond .ne 5, 3) := by decide +kernel
theorem dX6_give_19 : decode cX6_give 19 = .ok (.iconst (-1), 1) := by decide +kernel
theorem dX6_give_20 : decode cX6_give 20 = .ok (.ireturn, 1) := by decide +kernel
theorem dX6_give_21 : decode cX6_give 21 = .ok (.aload_n 0, 1) := by decide +kernel
theorem dX6_give_22 : decode cX6_give 22 = .ok (.invokevirtual 59, 3) := by decide +kernel
theorem dX6_give_25 : decode cX6_give 25 = .ok (.aload_n 0, 1) := by decide +kernel
theorem dX6_give_26 : decode cX6_give 26 = .ok (.getfield 10, 3) := by decide +kernel
theorem dX6_give_29 : decode cX6_give 29 = .ok (.iload_n 1, 1) := by decide +kernel
theorem dX6_give_30 : decode cX6_give 30 = .ok (.iload_n 2, 1) := by decide +kernel
theorem dX6_give_31 : decode cX6_give 31 = .ok (.iload_n 3, 1) := by decide +kernel
theorem dX6_give_32 : decode cX6_give 32 = .ok (.invokevirtual 99, 3) := by decide +kernel
theorem dX6_give_35 : decode cX6_give 35 = .ok (.ireturn, 1) := by decide +kernel
set_option maxRecDepth 20000 in
theorem ggX6_putBack_X6_isSpan : GoodIn wsX6_putBack wsX6_isSpan := goodIn_r _ [5] (by decide +kernel) (by decide +kernel)
set_option maxRecDepth 20000 in
theorem gX6_putBack_X6_isSpan : GoodIn wsX6_putBack (va_wsS RX6 70 yX6_isSpan wsX6_isSpan) := goodIn_app (goodIn_of _ (by decide +kernel)) ggX6_putBack_X6_isSpan
set_option maxRecDepth 20000 in
theorem ggX6_putBack_X6_record : GoodIn wsX6_putBack wsX6_record := goodIn_r _ [9, 10, 11, 1, 12, 13, 14, 15, 4, 16, 17, 18, 19, 20, 21, 22, 23, 24, 25, 26, 27, 28, 29, 30, 31, 32, 33, 34, 35, 36, 41, 42, 43, 44, 45, 46, 47, 48, 49, 50, 51] (by decide +kernel) (by decide +kernel)
set_option maxRecDepth 20000 in
theorem gX6_putBack_X6_record : GoodIn wsX6_putBack (wsV RX6 59 RX6 yX6_record wsX6_record) := goodIn_app (goodIn_of _ (by decide +kernel)) ggX6_putBack_X6_record
set_option maxRecDepth 20000 in
theorem ggX6_putBack_X0_takeBack : GoodIn wsX6_putBack wsX0_takeBack := goodIn_r _ [40, 23, 49, 50, 51] (by decide +kernel) (by decide +kernel)
set_option maxRecDepth 20000 in
theorem gX6_putBack_X0_takeBack : GoodIn wsX6_putBack (wsV RX6 103 RX0 yX0_takeBack wsX0_takeBack) := goodIn_app (goodIn_of _ (by decide +kernel)) ggX6_putBack_X0_takeBack
theorem dX6_putBack_0 : decode cX6_putBack 0 = .ok (.iload_n 1, 1) := by decide +kernel
theorem dX6_putBack_1 : decode cX6_putBack 1 = .ok (.iload_n 2, 1) := by decide +kernel
theorem dX6_putBack_2 : decode cX6_putBack 2 = .ok (.invokestatic 70, 3) := by decide +kernel
theorem dX6_putBack_5 : decode cX6_putBack 5 = .ok (.ifCond .ne 5, 3) := by decide +kernel
theorem dX6_putBack_8 : decode cX6_putBack 8 = .ok (.iconst (-1), 1) := by decide +kernel
theorem dX6_putBack_9 : decode cX6_putBack 9 = .ok (.ireturn, 1) := by decide +kernel
theorem dX6_putBack_10 : decode cX6_putBack 10 = .ok (.aload_n 0, 1) := by decide +kernel
theorem dX6_putBack_11 : decode cX6_putBack 11 = .ok (.invokevirtual 59, 3) := by decide +kernel
theorem dX6_putBack_14 : decode cX6_putBack 14 = .ok (.aload_n 0, 1) := by decide +kernel
theorem dX6_putBack_15 : decode cX6_putBack 15 = .ok (.getfield 10, 3) := by decide +kernel
theorem dX6_putBack_18 : decode cX6_putBack 18 = .ok (.iload_n 1, 1) := by decide +kernel
theorem dX6_putBack_19 : decode cX6_putBack 19 = .ok (.iload_n 2, 1) := by decide +kernel
theorem dX6_putBack_20 : decode cX6_putBack 20 = .ok (.invokevirtual 103, 3) := by decide +kernel
theorem dX6_putBack_23 : decode cX6_putBack 23 = .ok (.ireturn, 1) := by decide +kernel
set_option maxRecDepth 20000 in
theorem ggX6_move_X6_isMove : GoodIn wsX6_move wsX6_isMove := goodIn_r _ [8, 2, 9, 70, 71, 72, 73, 74, 75, 76, 77, 79, 80, 81] (by decide +kernel) (by decide +kernel)
set_option maxRecDepth 20000 in
theorem gX6_move_X6_isMove : GoodIn wsX6_move (wsV RX6 107 RX6 yX6_isMove wsX6_isMove) := goodIn_app (goodIn_of _ (by decide +kernel)) ggX6_move_X6_isMove
set_option maxRecDepth 20000 in
theorem ggX6_move_X6_record : GoodIn wsX6_move wsX6_record := goodIn_r _ [13, 14, 15, 2, 16, 17, 18, 19, 7, 20, 21, 22, 23, 24, 25, 26, 27, 28, 29, 30, 31, 32, 33, 34, 35, 36, 37, 38, 39, 40, 70, 71, 72, 73, 74, 75, 76, 77, 79, 80, 81] (by decide +kernel) (by decide +kernel)
set_option maxRecDepth 20000 in
theorem gX6_move_X6_record : GoodIn wsX6_move (wsV RX6 59 RX6 yX6_record wsX6_record) := goodIn_app (goodIn_of _ (by decide +kernel)) ggX6_move_X6_record
set_option maxRecDepth 20000 in
theorem ggX6_move_X2_pass : GoodIn wsX6_move wsX2_pass := goodIn_r _ [45, 46, 47, 48, 34, 35, 36, 49, 50, 44, 51, 52, 53, 54, 55, 24, 56, 27, 28, 57, 58, 59, 60, 61, 62, 63, 64, 65, 66, 67, 68, 79, 80, 81, 78] (by decide +kernel) (by decide +kernel)
set_option maxRecDepth 20000 in
theorem gX6_move_X2_pass : GoodIn wsX6_move (wsV RX6 110 RX2 yX2_pass wsX2_pass) := goodIn_app (goodIn_of _ (by decide +kernel)) ggX6_move_X2_pass
set_option maxRecDepth 20000 in
theorem ggX6_move_X0_takeOwners : GoodIn wsX6_move wsX0_takeOwners := goodIn_r _ [32, 27, 33, 34, 35, 36, 79, 80, 81] (by decide +kernel) (by decide +kernel)
set_option maxRecDepth 20000 in
theorem gX6_move_X0_takeOwners : GoodIn wsX6_move (wsV RX6 117 RX0 yX0_takeOwners wsX0_takeOwners) := goodIn_app (goodIn_of _ (by decide +kernel)) ggX6_move_X0_takeOwners
theorem dX6_move_0 : decode cX6_move 0 = .ok (.aload_n 0, 1) := by decide +kernel
theorem dX6_move_1 : decode cX6_move 1 = .ok (.iload_n 1, 1) := by decide +kernel
theorem dX6_move_2 : decode cX6_move 2 = .ok (.iload_n 2, 1) := by decide +kernel
theorem dX6_move_3 : decode cX6_move 3 = .ok (.invokevirtual 107, 3) := by decide +kernel
theorem dX6_move_6 : decode cX6_move 6 = .ok (.ifCond .ne 5, 3) := by decide +kernel
theorem dX6_move_9 : decode cX6_move 9 = .ok (.iconst (-1), 1) := by decide +kernel
theorem dX6_move_10 : decode cX6_move 10 = .ok (.ireturn, 1) := by decide +kernel
theorem dX6_move_11 : decode cX6_move 11 = .ok (.aload_n 0, 1) := by decide +kernel
theorem dX6_move_12 : decode cX6_move 12 = .ok (.invokevirtual 59, 3) := by decide +kernel
theorem dX6_move_15 : decode cX6_move 15 = .ok (.aload_n 0, 1) := by decide +kernel
theorem dX6_move_16 : decode cX6_move 16 = .ok (.getfield 34, 3) := by decide +kernel
theorem dX6_move_19 : decode cX6_move 19 = .ok (.aload_n 0, 1) := by decide +kernel
theorem dX6_move_20 : decode cX6_move 20 = .ok (.getfield 10, 3) := by decide +kernel
theorem dX6_move_23 : decode cX6_move 23 = .ok (.iload_n 1, 1) := by decide +kernel
theorem dX6_move_24 : decode cX6_move 24 = .ok (.iload_n 2, 1) := by decide +kernel
theorem dX6_move_25 : decode cX6_move 25 = .ok (.invokevirtual 110, 3) := by decide +kernel
theorem dX6_move_28 : decode cX6_move 28 = .ok (.istore_n 3, 1) := by decide +kernel
theorem dX6_move_29 : decode cX6_move 29 = .ok (.aload_n 0, 1) := by decide +kernel
theorem dX6_move_30 : decode cX6_move 30 = .ok (.getfield 10, 3) := by decide +kernel
theorem dX6_move_33 : decode cX6_move 33 = .ok (.aload_n 0, 1) := by decide +kernel
theorem dX6_move_34 : decode cX6_move 34 = .ok (.getfield 34, 3) := by decide +kernel
theorem dX6_move_37 : decode cX6_move 37 = .ok (.getfield 114, 3) := by decide +kernel
theorem dX6_move_40 : decode cX6_move 40 = .ok (.invokevirtual 117, 3) := by decide +kernel
theorem dX6_move_43 : decode cX6_move 43 = .ok (.iload_n 3, 1) := by decide +kernel
theorem dX6_move_44 : decode cX6_move 44 = .ok (.ireturn, 1) := by decide +kernel
set_option maxRecDepth 20000 in
theorem ggX6_cut_X6_isPair : GoodIn wsX6_cut wsX6_isPair := goodIn_r _ [6, 1, 7, 8, 9, 10, 11, 12, 66, 67, 68, 69, 70, 71, 72, 73, 74, 75, 76] (by decide +kernel) (by decide +kernel)
set_option maxRecDepth 20000 in
theorem gX6_cut_X6_isPair : GoodIn wsX6_cut (wsV RX6 121 RX6 yX6_isPair wsX6_isPair) := goodIn_app (goodIn_of _ (by decide +kernel)) ggX6_cut_X6_isPair
set_option maxRecDepth 20000 in
theorem ggX6_cut_X6_isSpan : GoodIn wsX6_cut wsX6_isSpan := goodIn_r _ [15] (by decide +kernel) (by decide +kernel)
set_option maxRecDepth 20000 in
theorem gX6_cut_X6_isSpan : GoodIn wsX6_cut (va_wsS RX6 70 yX6_isSpan wsX6_isSpan) := goodIn_app (goodIn_of _ (by decide +kernel)) ggX6_cut_X6_isSpan
set_option maxRecDepth 20000 in
theorem ggX6_cut_X0_liesOnTable : GoodIn wsX6_cut wsX0_liesOnTable := goodIn_r _ [19, 20, 74, 75, 76] (by decide +kernel) (by decide +kernel)
set_option maxRecDepth 20000 in
theorem gX6_cut_X0_liesOnTable : GoodIn wsX6_cut (wsV RX6 124 RX0 yX0_liesOnTable wsX0_liesOnTable) := goodIn_app (goodIn_of _ (by decide +kernel)) ggX6_cut_X0_liesOnTable
set_option maxRecDepth 20000 in
theorem ggX6_cut_X6_record : GoodIn wsX6_cut wsX6_record := goodIn_r _ [24, 25, 26, 1, 27, 28, 29, 30, 5, 31, 32, 33, 34, 10, 35, 12, 20, 36, 37, 38, 39, 40, 41, 42, 43, 44, 45, 46, 47, 48, 66, 67, 68, 69, 70, 71, 72, 73, 74, 75, 76] (by decide +kernel) (by decide +kernel)
set_option maxRecDepth 20000 in
theorem gX6_cut_X6_record : GoodIn wsX6_cut (wsV RX6 59 RX6 yX6_record wsX6_record) := goodIn_app (goodIn_of _ (by decide +kernel)) ggX6_cut_X6_record
set_option maxRecDepth 20000 in
theorem ggX6_cut_X0_findCut : GoodIn wsX6_cut wsX0_findCut := goodIn_r _ [52, 36, 53, 54, 55, 56, 57, 58, 59, 10, 60, 74, 75, 76] (by decide +kernel) (by decide +kernel)
set_option maxRecDepth 20000 in
theorem gX6_cut_X0_findCut : GoodIn wsX6_cut (wsV RX6 127 RX0 yX0_findCut wsX0_findCut) := goodIn_app (goodIn_of _ (by decide +kernel)) ggX6_cut_X0_findCut
set_option maxRecDepth 20000 in
theorem ggX6_cut_X0_spanWorth : GoodIn wsX6_cut wsX0_spanWorth := goodIn_r _ [60, 36, 74, 75, 76] (by decide +kernel) (by decide +kernel)
set_option maxRecDepth 20000 in
theorem gX6_cut_X0_spanWorth : GoodIn wsX6_cut (wsV RX6 130 RX0 yX0_spanWorth wsX0_spanWorth) := goodIn_app (goodIn_of _ (by decide +kernel)) ggX6_cut_X0_spanWorth
set_option maxRecDepth 20000 in
theorem ggX6_cut_X0_handOut : GoodIn wsX6_cut wsX0_handOut := goodIn_r _ [65, 20, 74, 75, 76] (by decide +kernel) (by decide +kernel)
set_option maxRecDepth 20000 in
theorem gX6_cut_X0_handOut : GoodIn wsX6_cut (wsV RX6 99 RX0 yX0_handOut wsX0_handOut) := goodIn_app (goodIn_of _ (by decide +kernel)) ggX6_cut_X0_handOut
theorem dX6_cut_0 : decode cX6_cut 0 = .ok (.aload_n 0, 1) := by decide +kernel
theorem dX6_cut_1 : decode cX6_cut 1 = .ok (.iload_n 1, 1) := by decide +kernel
theorem dX6_cut_2 : decode cX6_cut 2 = .ok (.iload_n 2, 1) := by decide +kernel
theorem dX6_cut_3 : decode cX6_cut 3 = .ok (.invokevirtual 121, 3) := by decide +kernel
theorem dX6_cut_6 : decode cX6_cut 6 = .ok (.ifCond .eq 18, 3) := by decide +kernel
theorem dX6_cut_9 : decode cX6_cut 9 = .ok (.iload_n 3, 1) := by decide +kernel
theorem dX6_cut_10 : decode cX6_cut 10 = .ok (.iload 4, 2) := by decide +kernel
theorem dX6_cut_12 : decode cX6_cut 12 = .ok (.invokestatic 70, 3) := by decide +kernel
theorem dX6_cut_15 : decode cX6_cut 15 = .ok (.ifCond .eq 9, 3) := by decide +kernel
theorem dX6_cut_18 : decode cX6_cut 18 = .ok (.iload_n 3, 1) := by decide +kernel
theorem dX6_cut_19 : decode cX6_cut 19 = .ok (.iload 4, 2) := by decide +kernel
theorem dX6_cut_21 : decode cX6_cut 21 = .ok (.if_icmp .ne 5, 3) := by decide +kernel
theorem dX6_cut_24 : decode cX6_cut 24 = .ok (.iconst (-1), 1) := by decide +kernel
theorem dX6_cut_25 : decode cX6_cut 25 = .ok (.ireturn, 1) := by decide +kernel
theorem dX6_cut_26 : decode cX6_cut 26 = .ok (.aload_n 0, 1) := by decide +kernel
theorem dX6_cut_27 : decode cX6_cut 27 = .ok (.getfield 10, 3) := by decide +kernel
theorem dX6_cut_30 : decode cX6_cut 30 = .ok (.iload_n 3, 1) := by decide +kernel
theorem dX6_cut_31 : decode cX6_cut 31 = .ok (.iload 4, 2) := by decide +kernel
theorem dX6_cut_33 : decode cX6_cut 33 = .ok (.invokevirtual 124, 3) := by decide +kernel
theorem dX6_cut_36 : decode cX6_cut 36 = .ok (.ifCond .ne 6, 3) := by decide +kernel
theorem dX6_cut_39 : decode cX6_cut 39 = .ok (.bipush (-2), 2) := by decide +kernel
theorem dX6_cut_41 : decode cX6_cut 41 = .ok (.ireturn, 1) := by decide +kernel
theorem dX6_cut_42 : decode cX6_cut 42 = .ok (.aload_n 0, 1) := by decide +kernel
theorem dX6_cut_43 : decode cX6_cut 43 = .ok (.invokevirtual 59, 3) := by decide +kernel
theorem dX6_cut_46 : decode cX6_cut 46 = .ok (.aload_n 0, 1) := by decide +kernel
theorem dX6_cut_47 : decode cX6_cut 47 = .ok (.getfield 10, 3) := by decide +kernel
theorem dX6_cut_50 : decode cX6_cut 50 = .ok (.iload_n 1, 1) := by decide +kernel
theorem dX6_cut_51 : decode cX6_cut 51 = .ok (.iload_n 3, 1) := by decide +kernel
theorem dX6_cut_52 : decode cX6_cut 52 = .ok (.iload 4, 2) := by decide +kernel
theorem dX6_cut_54 : decode cX6_cut 54 = .ok (.invokevirtual 127, 3) := by decide +kernel
theorem dX6_cut_57 : decode cX6_cut 57 = .ok (.istore 5, 2) := by decide +kernel
theorem dX6_cut_59 : decode cX6_cut 59 = .ok (.aload_n 0, 1) := by decide +kernel
theorem dX6_cut_60 : decode cX6_cut 60 = .ok (.getfield 10, 3) := by decide +kernel
theorem dX6_cut_63 : decode cX6_cut 63 = .ok (.iload_n 2, 1) := by decide +kernel
theorem dX6_cut_64 : decode cX6_cut 64 = .ok (.iload_n 3, 1) := by decide +kernel

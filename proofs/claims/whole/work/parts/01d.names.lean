set_option maxRecDepth 20000 in
theorem gX6_cut_X0_liesOnTable : GoodIn wsX6_cut (wsV RX6 124 RX0 yX0_liesOnTable wsX0_liesOnTable) := goodIn_app (goodIn_of _ (by decide +kernel)) ggX6_cut_X0_liesOnTable
set_option maxRecDepth 20000 in
theorem ggX6_cut_X6_record : GoodIn wsX6_cut wsX6_record := goodIn_r _ [24, 25, 26, 1, 27, 28, 29, 30, 5, 31, 32, 33, 34, 10, 35, 12, 20, 36, 37, 38, 39, 40, 41, 42, 43, 44, 45, 46, 47, 48, 66, 67, 68, 69, 70, 71, 72, 73, 74, 75, 76] (by decide +kernel) (by decide +kernel)
set_option maxRecDepth 20000 in
theorem gX6_cut_X6_record : GoodIn wsX6_cut (wsV RX6 59 RX6 yX6_record wsX6_record) := goodIn_app (goodIn_of _ (by decide +kernel)) ggX6_cut_X6_record
set_option maxRecDepth 20000 in
theorem ggX6_cut_X0_findCut : GoodIn wsX6_cut wsX0_findCut := goodIn_r _ [52, 36, 53, 54, 55, 56, 57, 58, 59, 10, 60, 74, 75, 76] (by decide +kernel) (by decide +kernel)
set_option maxRecDepth 20000 in
theorem gX6_cut_X0_findCut : GoodIn wsX6_cut (wsV RX6 127 RX0 yX0_findCut wsX0_findCut) := goodIn_app (goodIn_of _ (by decide +kernel)) ggX6_cut_X0_findCut
set_option maxRecDepth 20000 in
theorem ggX6_cut_X0_spanWorth : GoodIn wsX6_cut wsX0_spanWorth := goodIn_r _ [60, 36, 74, 75, 76] (by decide +kernel) (by decide +kernel)
set_option maxRecDepth 20000 in
theorem gX6_cut_X0_spanWorth : GoodIn wsX6_cut (wsV RX6 130 RX0 yX0_spanWorth wsX0_spanWorth) := goodIn_app (goodIn_of _ (by decide +kernel)) ggX6_cut_X0_spanWorth
set_option maxRecDepth 20000 in
theorem ggX6_cut_X0_handOut : GoodIn wsX6_cut wsX0_handOut := goodIn_r _ [65, 20, 74, 75, 76] (by decide +kernel) (by decide +kernel)
set_option maxRecDepth 20000 in
theorem gX6_cut_X0_handOut : GoodIn wsX6_cut (wsV RX6 99 RX0 yX0_handOut wsX0_handOut) := goodIn_app (goodIn_of _ (by decide +kernel)) ggX6_cut_X0_handOut
theorem dX6_cut_0 : decode cX6_cut 0 = .ok (.aload_n 0, 1) := by decide +kernel
theorem dX6_cut_1 : decode cX6_cut 1 = .ok (.iload_n 1, 1) := by decide +kernel
theorem dX6_cut_2 : decode cX6_cut 2 = .ok (.iload_n 2, 1) := by decide +kernel
theorem dX6_cut_3 : decode cX6_cut 3 = .ok (.invokevirtual 121, 3) := by decide +kernel
theorem dX6_cut_6 : decode cX6_cut 6 = .ok (.ifCond .eq 18, 3) := by decide +kernel
theorem dX6_cut_9 : decode cX6_cut 9 = .ok (.iload_n 3, 1) := by decide +kernel
theorem dX6_cut_10 : decode cX6_cut 10 = .ok (.iload 4, 2) := by decide +kernel
theorem dX6_cut_12 : decode cX6_cut 12 = .ok (.invokestatic 70, 3) := by decide +kernel
theorem dX6_cut_15 : decode cX6_cut 15 = .ok (.ifCond .eq 9, 3) := by decide +kernel
theorem dX6_cut_18 : decode cX6_cut 18 = .ok (.iload_n 3, 1) := by decide +kernel
theorem dX6_cut_19 : decode cX6_cut 19 = .ok (.iload 4, 2) := by decide +kernel
theorem dX6_cut_21 : decode cX6_cut 21 = .ok (.if_icmp .ne 5, 3) := by decide +kernel
theorem dX6_cut_24 : decode cX6_cut 24 = .ok (.iconst (-1), 1) := by decide +kernel
theorem dX6_cut_25 : decode cX6_cut 25 = .ok (.ireturn, 1) := by decide +kernel
theorem dX6_cut_26 : decode cX6_cut 26 = .ok (.aload_n 0, 1) := by decide +kernel
theorem dX6_cut_27 : decode cX6_cut 27 = .ok (.getfield 10, 3) := by decide +kernel
theorem dX6_cut_30 : decode cX6_cut 30 = .ok (.iload_n 3, 1) := by decide +kernel
theorem dX6_cut_31 : decode cX6_cut 31 = .ok (.iload 4, 2) := by decide +kernel
theorem dX6_cut_33 : decode cX6_cut 33 = .ok (.invokevirtual 124, 3) := by decide +kernel
theorem dX6_cut_36 : decode cX6_cut 36 = .ok (.ifCond .ne 6, 3) := by decide +kernel
theorem dX6_cut_39 : decode cX6_cut 39 = .ok (.bipush (-2), 2) := by decide +kernel
theorem dX6_cut_41 : decode cX6_cut 41 = .ok (.ireturn, 1) := by decide +kernel
theorem dX6_cut_42 : decode cX6_cut 42 = .ok (.aload_n 0, 1) := by decide +kernel
theorem dX6_cut_43 : decode cX6_cut 43 = .ok (.invokevirtual 59, 3) := by decide +kernel
theorem dX6_cut_46 : decode cX6_cut 46 = .ok (.aload_n 0, 1) := by decide +kernel
theorem dX6_cut_47 : decode cX6_cut 47 = .ok (.getfield 10, 3) := by decide +kernel
theorem dX6_cut_50 : decode cX6_cut 50 = .ok (.iload_n 1, 1) := by decide +kernel
theorem dX6_cut_51 : decode cX6_cut 51 = .ok (.iload_n 3, 1) := by decide +kernel
theorem dX6_cut_52 : decode cX6_cut 52 = .ok (.iload 4, 2) := by decide +kernel
theorem dX6_cut_54 : decode cX6_cut 54 = .ok (.invokevirtual 127, 3) := by decide +kernel
theorem dX6_cut_57 : decode cX6_cut 57 = .ok (.istore 5, 2) := by decide +kernel
theorem dX6_cut_59 : decode cX6_cut 59 = .ok (.aload_n 0, 1) := by decide +kernel
theorem dX6_cut_60 : decode cX6_cut 60 = .ok (.getfield 10, 3) := by decide +kernel
theorem dX6_cut_63 : decode cX6_cut 63 = .ok (.iload_n 2, 1) := by decide +kernel
theorem dX6_cut_64 : decode cX6_cut 64 = .ok (.iload_n 3, 1) := by decide +kernel
theorem dX6_cut_65 : decode cX6_cut 65 = .ok (.iload 5, 2) := by decide +kernel
theorem dX6_cut_67 : decode cX6_cut 67 = .ok (.iconst 1, 1) := by decide +kernel
theorem dX6_cut_68 : decode cX6_cut 68 = .ok (.isub, 1) := by decide +kernel
theorem dX6_cut_69 : decode cX6_cut 69 = .ok (.invokevirtual 130, 3) := by decide +kernel
theorem dX6_cut_72 : decode cX6_cut 72 = .ok (.aload_n 0, 1) := by decide +kernel
theorem dX6_cut_73 : decode cX6_cut 73 = .ok (.getfield 10, 3) := by decide +kernel
theorem dX6_cut_76 : decode cX6_cut 76 = .ok (.iload_n 2, 1) := by decide +kernel
theorem dX6_cut_77 : decode cX6_cut 77 = .ok (.iload 5, 2) := by decide +kernel
theorem dX6_cut_79 : decode cX6_cut 79 = .ok (.iload 4, 2) := by decide +kernel
theorem dX6_cut_81 : decode cX6_cut 81 = .ok (.invokevirtual 130, 3) := by decide +kernel
theorem dX6_cut_84 : decode cX6_cut 84 = .ok (.if_icmp .lt 7, 3) := by decide +kernel
theorem dX6_cut_87 : decode cX6_cut 87 = .ok (.iconst 1, 1) := by decide +kernel
theorem dX6_cut_88 : decode cX6_cut 88 = .ok (.goto 4, 3) := by decide +kernel
theorem dX6_cut_91 : decode cX6_cut 91 = .ok (.iconst 0, 1) := by decide +kernel
theorem dX6_cut_92 : decode cX6_cut 92 = .ok (.istore 6, 2) := by decide +kernel
theorem dX6_cut_94 : decode cX6_cut 94 = .ok (.aload_n 0, 1) := by decide +kernel
theorem dX6_cut_95 : decode cX6_cut 95 = .ok (.getfield 10, 3) := by decide +kernel
theorem dX6_cut_98 : decode cX6_cut 98 = .ok (.iload 6, 2) := by decide +kernel
theorem dX6_cut_100 : decode cX6_cut 100 = .ok (.ifCond .eq 7, 3) := by decide +kernel
theorem dX6_cut_103 : decode cX6_cut 103 = .ok (.iload_n 2, 1) := by decide +kernel
theorem dX6_cut_104 : decode cX6_cut 104 = .ok (.goto 4, 3) := by decide +kernel
theorem dX6_cut_107 : decode cX6_cut 107 = .ok (.iload_n 1, 1) := by decide +kernel
theorem dX6_cut_108 : decode cX6_cut 108 = .ok (.iload_n 3, 1) := by decide +kernel
theorem dX6_cut_109 : decode cX6_cut 109 = .ok (.iload 5, 2) := by decide +kernel
theorem dX6_cut_111 : decode cX6_cut 111 = .ok (.iconst 1, 1) := by decide +kernel
theorem dX6_cut_112 : decode cX6_cut 112 = .ok (.isub, 1) := by decide +kernel
theorem dX6_cut_113 : decode cX6_cut 113 = .ok (.invokevirtual 99, 3) := by decide +kernel
theorem dX6_cut_116 : decode cX6_cut 116 = .ok (.pop, 1) := by decide +kernel
theorem dX6_cut_117 : decode cX6_cut 117 = .ok (.aload_n 0, 1) := by decide +kernel
theorem dX6_cut_118 : decode cX6_cut 118 = .ok (.getfield 10, 3) := by decide +kernel
theorem dX6_cut_121 : decode cX6_cut 121 = .ok (.iload 6, 2) := by decide +kernel
theorem dX6_cut_123 : decode cX6_cut 123 = .ok (.ifCond .eq 7, 3) := by decide +kernel
theorem dX6_cut_126 : decode cX6_cut 126 = .ok (.iload_n 1, 1) := by decide +kernel
theorem dX6_cut_127 : decode cX6_cut 127 = .ok (.goto 4, 3) := by decide +kernel
theorem dX6_cut_130 : decode cX6_cut 130 = .ok (.iload_n 2, 1) := by decide +kernel
theorem dX6_cut_131 : decode cX6_cut 131 = .ok (.iload 5, 2) := by decide +kernel
theorem dX6_cut_133 : decode cX6_cut 133 = .ok (.iload 4, 2) := by decide +kernel
theorem dX6_cut_135 : decode cX6_cut 135 = .ok (.invokevirtual 99, 3) := by decide +kernel
theorem dX6_cut_138 : decode cX6_cut 138 = .ok (.pop, 1) := by decide +kernel
theorem dX6_cut_139 : decode cX6_cut 139 = .ok (.iload 5, 2) := by decide +kernel
theorem dX6_cut_141 : decode cX6_cut 141 = .ok (.ireturn, 1) := by decide +kernel
set_option maxRecDepth 20000 in
theorem ggX6_trim_X6_isPair : GoodIn wsX6_trim wsX6_isPair := goodIn_r _ [6, 1, 7, 8, 9, 10, 11, 12, 54, 55, 56, 57, 58, 59, 60, 61, 62, 63, 64] (by decide +kernel) (by decide +kernel)
set_option maxRecDepth 20000 in
theorem gX6_trim_X6_isPair : GoodIn wsX6_trim (wsV RX6 121 RX6 yX6_isPair wsX6_isPair) := goodIn_app (goodIn_of _ (by decide +kernel)) ggX6_trim_X6_isPair
set_option maxRecDepth 20000 in
theorem ggX6_trim_X6_record : GoodIn wsX6_trim wsX6_record := goodIn_r _ [16, 17, 18, 1, 19, 20, 21, 22, 5, 23, 24, 25, 26, 10, 27, 12, 28, 29, 30, 31, 32, 33, 34, 35, 36, 37, 38, 39, 40, 41, 54, 55, 56, 57, 58, 59, 60, 61, 62, 63, 64] (by decide +kernel) (by decide +kernel)
set_option maxRecDepth 20000 in
theorem gX6_trim_X6_record : GoodIn wsX6_trim (wsV RX6 59 RX6 yX6_record wsX6_record) := goodIn_app (goodIn_of _ (by decide +kernel)) ggX6_trim_X6_record
set_option maxRecDepth 20000 in
theorem ggX6_trim_X0_trimPiece : GoodIn wsX6_trim wsX0_trimPiece := goodIn_r _ [45, 28, 29, 46, 47, 48, 10, 49, 50, 51, 52, 53, 62, 63, 64] (by decide +kernel) (by decide +kernel)
set_option maxRecDepth 20000 in
theorem gX6_trim_X0_trimPiece : GoodIn wsX6_trim (wsV RX6 133 RX0 yX0_trimPiece wsX0_trimPiece) := goodIn_app (goodIn_of _ (by decide +kernel)) ggX6_trim_X0_trimPiece
theorem dX6_trim_0 : decode cX6_trim 0 = .ok (.aload_n 0, 1) := by decide +kernel
theorem dX6_trim_1 : decode cX6_trim 1 = .ok (.iload_n 1, 1) := by decide +kernel
theorem dX6_trim_2 : decode cX6_trim 2 = .ok (.iload_n 2, 1) := by decide +kernel
theorem dX6_trim_3 : decode cX6_trim 3 = .ok (.invokevirtual 121, 3) := by decide +kernel
theorem dX6_trim_6 : decode cX6_trim 6 = .ok (.ifCond .ne 5, 3) := by decide +kernel
theorem dX6_trim_9 : decode cX6_trim 9 = .ok (.iconst (-1), 1) := by decide +kernel
theorem dX6_trim_10 : decode cX6_trim 10 = .ok (.ireturn, 1) := by decide +kernel
theorem dX6_trim_11 : decode cX6_trim 11 = .ok (.aload_n 0, 1) := by decide +kernel
theorem dX6_trim_12 : decode cX6_trim 12 = .ok (.invokevirtual 59, 3) := by decide +kernel
theorem dX6_trim_15 : decode cX6_trim 15 = .ok (.aload_n 0, 1) := by decide +kernel
theorem dX6_trim_16 : decode cX6_trim 16 = .ok (.getfield 10, 3) := by decide +kernel
theorem dX6_trim_19 : decode cX6_trim 19 = .ok (.iload_n 1, 1) := by decide +kernel
theorem dX6_trim_20 : decode cX6_trim 20 = .ok (.iload_n 2, 1) := by decide +kernel
theorem dX6_trim_21 : decode cX6_trim 21 = .ok (.invokevirtual 133, 3) := by decide +kernel
theorem dX6_trim_24 : decode cX6_trim 24 = .ok (.ireturn, 1) := by decide +kernel
set_option maxRecDepth 20000 in
theorem ggX6_exchange_X3_find : GoodIn wsX6_exchange wsX3_find := goodIn_r _ [8, 9, 10, 11, 12, 13, 14, 7, 15, 16, 17, 18, 19, 20, 21, 22, 23, 24, 25, 26, 27, 28, 29, 30, 31, 32, 33, 34, 35, 36, 37, 38, 39, 40, 41, 42, 43, 44, 45, 46, 47, 48, 49, 50, 51, 52, 53, 54, 55, 56, 57, 58, 59, 60, 61, 62, 63, 64, 114, 115, 116, 112, 113, 117, 118, 119] (by decide +kernel) (by decide +kernel)
set_option maxRecDepth 20000 in
theorem gX6_exchange_X3_find : GoodIn wsX6_exchange (wsV RX6 136 RX3 yX3_find wsX3_find) := goodIn_app (goodIn_of _ (by decide +kernel)) ggX6_exchange_X3_find
set_option maxRecDepth 20000 in
theorem ggX6_exchange_X6_record : GoodIn wsX6_exchange wsX6_record := goodIn_r _ [69, 70, 71, 2, 72, 73, 74, 75, 68, 76, 77, 78, 79, 20, 80, 81, 34, 35, 82, 83, 84, 85, 86, 87, 88, 89, 90, 91, 92, 93, 104, 105, 106, 107, 108, 109, 110, 111, 114, 115, 116] (by decide +kernel) (by decide +kernel)
set_option maxRecDepth 20000 in
theorem gX6_exchange_X6_record : GoodIn wsX6_exchange (wsV RX6 59 RX6 yX6_record wsX6_record) := goodIn_app (goodIn_of _ (by decide +kernel)) ggX6_exchange_X6_record
set_option maxRecDepth 20000 in
theorem ggX6_exchange_X0_passPieces : GoodIn wsX6_exchange wsX0_passPieces := goodIn_r _ [97, 34, 98, 99, 100, 101, 102, 39, 103, 44, 50, 114, 115, 116, 117, 118, 119] (by decide +kernel) (by decide +kernel)
set_option maxRecDepth 20000 in
theorem gX6_exchange_X0_passPieces : GoodIn wsX6_exchange (wsV RX6 144 RX0 yX0_passPieces wsX0_passPieces) := goodIn_app (goodIn_of _ (by decide +kernel)) ggX6_exchange_X0_passPieces
theorem dX6_exchange_0 : decode cX6_exchange 0 = .ok (.aload_n 0, 1) := by decide +kernel
theorem dX6_exchange_1 : decode cX6_exchange 1 = .ok (.getfield 41, 3) := by decide +kernel
theorem dX6_exchange_4 : decode cX6_exchange 4 = .ok (.aload_n 0, 1) := by decide +kernel
theorem dX6_exchange_5 : decode cX6_exchange 5 = .ok (.getfield 10, 3) := by decide +kernel
theorem dX6_exchange_8 : decode cX6_exchange 8 = .ok (.invokevirtual 136, 3) := by decide +kernel
theorem dX6_exchange_11 : decode cX6_exchange 11 = .ok (.istore_n 1, 1) := by decide +kernel
theorem dX6_exchange_12 : decode cX6_exchange 12 = .ok (.iload_n 1, 1) := by decide +kernel
theorem dX6_exchange_13 : decode cX6_exchange 13 = .ok (.ifCond .ne 6, 3) := by decide +kernel
theorem dX6_exchange_16 : decode cX6_exchange 16 = .ok (.bipush (-2), 2) := by decide +kernel
theorem dX6_exchange_18 : decode cX6_exchange 18 = .ok (.ireturn, 1) := by decide +kernel
theorem dX6_exchange_19 : decode cX6_exchange 19 = .ok (.aload_n 0, 1) := by decide +kernel
theorem dX6_exchange_20 : decode cX6_exchange 20 = .ok (.invokevirtual 59, 3) := by decide +kernel
theorem dX6_exchange_23 : decode cX6_exchange 23 = .ok (.aload_n 0, 1) := by decide +kernel
theorem dX6_exchange_24 : decode cX6_exchange 24 = .ok (.getfield 10, 3) := by decide +kernel
theorem dX6_exchange_27 : decode cX6_exchange 27 = .ok (.aload_n 0, 1) := by decide +kernel
theorem dX6_exchange_28 : decode cX6_exchange 28 = .ok (.getfield 41, 3) := by decide +kernel
theorem dX6_exchange_31 : decode cX6_exchange 31 = .ok (.getfield 140, 3) := by decide +kernel
theorem dX6_exchange_34 : decode cX6_exchange 34 = .ok (.invokevirtual 144, 3) := by decide +kernel
theorem dX6_exchange_37 : decode cX6_exchange 37 = .ok (.iload_n 1, 1) := by decide +kernel
theorem dX6_exchange_38 : decode cX6_exchange 38 = .ok (.ireturn, 1) := by decide +kernel
set_option maxRecDepth 20000 in
theorem ggX6_undo_X0_become : GoodIn wsX6_undo wsX0_become := goodIn_r _ [9, 10, 11, 12, 13, 14, 15, 8, 16, 17, 18, 19, 20, 21, 22, 23, 24, 33, 34, 35] (by decide +kernel) (by decide +kernel)
set_option maxRecDepth 20000 in
theorem gX6_undo_X0_become : GoodIn wsX6_undo (wsV RX6 148 RX0 yX0_become wsX0_become) := goodIn_app (goodIn_of _ (by decide +kernel)) ggX6_undo_X0_become
theorem dX6_undo_0 : decode cX6_undo 0 = .ok (.aload_n 0, 1) := by decide +kernel
theorem dX6_undo_1 : decode cX6_undo 1 = .ok (.getfield 20, 3) := by decide +kernel
theorem dX6_undo_4 : decode cX6_undo 4 = .ok (.iconst 1, 1) := by decide +kernel
theorem dX6_undo_5 : decode cX6_undo 5 = .ok (.if_icmp .lt 11, 3) := by decide +kernel
theorem dX6_undo_8 : decode cX6_undo 8 = .ok (.aload_n 0, 1) := by decide +kernel
theorem dX6_undo_9 : decode cX6_undo 9 = .ok (.getfield 20, 3) := by decide +kernel
theorem dX6_undo_12 : decode cX6_undo 12 = .ok (.iconst 5, 1) := by decide +kernel
theorem dX6_undo_13 : decode cX6_undo 13 = .ok (.if_icmp .le 6, 3) := by decide +kernel
theorem dX6_undo_16 : decode cX6_undo 16 = .ok (.bipush (-2), 2) := by decide +kernel
theorem dX6_undo_18 : decode cX6_undo 18 = .ok (.ireturn, 1) := by decide +kernel
theorem dX6_undo_19 : decode cX6_undo 19 = .ok (.aload_n 0, 1) := by decide +kernel
theorem dX6_undo_20 : decode cX6_undo 20 = .ok (.dup, 1) := by decide +kernel
theorem dX6_undo_21 : decode cX6_undo 21 = .ok (.getfield 20, 3) := by decide +kernel
theorem dX6_undo_24 : decode cX6_undo 24 = .ok (.iconst 1, 1) := by decide +kernel
theorem dX6_undo_25 : decode cX6_undo 25 = .ok (.isub, 1) := by decide +kernel
theorem dX6_undo_26 : decode cX6_undo 26 = .ok (.putfield 20, 3) := by decide +kernel
theorem dX6_undo_29 : decode cX6_undo 29 = .ok (.aload_n 0, 1) := by decide +kernel
theorem dX6_undo_30 : decode cX6_undo 30 = .ok (.getfield 10, 3) := by decide +kernel
theorem dX6_undo_33 : decode cX6_undo 33 = .ok (.aload_n 0, 1) := by decide +kernel
theorem dX6_undo_34 : decode cX6_undo 34 = .ok (.getfield 16, 3) := by decide +kernel
theorem dX6_undo_37 : decode cX6_undo 37 = .ok (.aload_n 0, 1) := by decide +kernel
theorem dX6_undo_38 : decode cX6_undo 38 = .ok (.getfield 20, 3) := by decide +kernel
theorem dX6_undo_41 : decode cX6_undo 41 = .ok (.aaload, 1) := by decide +kernel
theorem dX6_undo_42 : decode cX6_undo 42 = .ok (.invokevirtual 148, 3) := by decide +kernel
theorem dX6_undo_45 : decode cX6_undo 45 = .ok (.aload_n 0, 1) := by decide +kernel
theorem dX6_undo_46 : decode cX6_undo 46 = .ok (.iconst 0, 1) := by decide +kernel
theorem dX6_undo_47 : decode cX6_undo 47 = .ok (.putfield 52, 3) := by decide +kernel
theorem dX6_undo_50 : decode cX6_undo 50 = .ok (.aload_n 0, 1) := by decide +kernel
theorem dX6_undo_51 : decode cX6_undo 51 = .ok (.getfield 20, 3) := by decide +kernel
theorem dX6_undo_54 : decode cX6_undo 54 = .ok (.ireturn, 1) := by decide +kernel
set_option maxRecDepth 20000 in
theorem ggX6_count_X0_crumbsOf : GoodIn wsX6_count wsX0_crumbsOf := goodIn_r _ [10, 11, 58, 59, 60] (by decide +kernel) (by decide +kernel)
set_option maxRecDepth 20000 in
theorem gX6_count_X0_crumbsOf : GoodIn wsX6_count (wsV RX6 152 RX0 yX0_crumbsOf wsX0_crumbsOf) := goodIn_app (goodIn_of _ (by decide +kernel)) ggX6_count_X0_crumbsOf
set_option maxRecDepth 20000 in
theorem ggX6_count_X0_arrows : GoodIn wsX6_count wsX0_arrows := goodIn_r _ [15, 16, 17, 18, 19, 9, 20, 21, 22, 23, 24, 25, 26, 27, 28, 29, 30, 31, 32, 11, 33, 58, 59, 60] (by decide +kernel) (by decide +kernel)
set_option maxRecDepth 20000 in
theorem gX6_count_X0_arrows : GoodIn wsX6_count (wsV RX6 155 RX0 yX0_arrows wsX0_arrows) := goodIn_app (goodIn_of _ (by decide +kernel)) ggX6_count_X0_arrows
set_option maxRecDepth 20000 in
theorem ggX6_count_X0_allEnvies : GoodIn wsX6_count wsX0_allEnvies := goodIn_r _ [37, 16, 17, 18, 19, 9, 20, 21, 22, 23, 24, 25, 26, 27, 28, 29, 30, 31, 32, 11, 33, 58, 59, 60] (by decide +kernel) (by decide +kernel)
set_option maxRecDepth 20000 in
theorem gX6_count_X0_allEnvies : GoodIn wsX6_count (wsV RX6 158 RX0 yX0_allEnvies wsX0_allEnvies) := goodIn_app (goodIn_of _ (by decide +kernel)) ggX6_count_X0_allEnvies
set_option maxRecDepth 20000 in
theorem ggX6_count_X0_contentGuests : GoodIn wsX6_count wsX0_contentGuests := goodIn_r _ [41, 16, 42, 43, 44, 9, 45, 46, 47, 48, 49, 33, 25, 26, 27, 28, 29, 30, 31, 32, 11, 58, 59, 60] (by decide +kernel) (by decide +kernel)
set_option maxRecDepth 20000 in
theorem gX6_count_X0_contentGuests : GoodIn wsX6_count (wsV RX6 161 RX0 yX0_contentGuests wsX0_contentGuests) := goodIn_app (goodIn_of _ (by decide +kernel)) ggX6_count_X0_contentGuests
theorem dX6_count_0 : decode cX6_count 0 = .ok (.iload_n 1, 1) := by decide +kernel
theorem dX6_count_1 : decode cX6_count 1 = .ok (.tableswitch 117 0 7 #[47, 55, 64, 72, 80, 96, 104, 109], 47) := by decide +kernel
theorem dX6_count_48 : decode cX6_count 48 = .ok (.aload_n 0, 1) := by decide +kernel
theorem dX6_count_49 : decode cX6_count 49 = .ok (.getfield 10, 3) := by decide +kernel
theorem dX6_count_52 : decode cX6_count 52 = .ok (.getfield 56, 3) := by decide +kernel
theorem dX6_count_55 : decode cX6_count 55 = .ok (.ireturn, 1) := by decide +kernel
theorem dX6_count_56 : decode cX6_count 56 = .ok (.aload_n 0, 1) := by decide +kernel
theorem dX6_count_57 : decode cX6_count 57 = .ok (.getfield 10, 3) := by decide +kernel
theorem dX6_count_60 : decode cX6_count 60 = .ok (.iconst (-1), 1) := by decide +kernel
theorem dX6_count_61 : decode cX6_count 61 = .ok (.invokevirtual 152, 3) := by decide +kernel
theorem dX6_count_64 : decode cX6_count 64 = .ok (.ireturn, 1) := by decide +kernel
theorem dX6_count_65 : decode cX6_count 65 = .ok (.aload_n 0, 1) := by decide +kernel
theorem dX6_count_66 : decode cX6_count 66 = .ok (.getfield 10, 3) := by decide +kernel
theorem dX6_count_69 : decode cX6_count 69 = .ok (.invokevirtual 155, 3) := by decide +kernel
theorem dX6_count_72 : decode cX6_count 72 = .ok (.ireturn, 1) := by decide +kernel
theorem dX6_count_73 : decode cX6_count 73 = .ok (.aload_n 0, 1) := by decide +kernel
theorem dX6_count_74 : decode cX6_count 74 = .ok (.getfield 10, 3) := by decide +kernel
theorem dX6_count_77 : decode cX6_count 77 = .ok (.invokevirtual 158, 3) := by decide +kernel
theorem dX6_count_80 : decode cX6_count 80 = .ok (.ireturn, 1) := by decide +kernel
theorem dX6_count_81 : decode cX6_count 81 = .ok (.aload_n 0, 1) := by decide +kernel
theorem dX6_count_82 : decode cX6_count 82 = .ok (.getfield 10, 3) := by decide +kernel
theorem dX6_count_85 : decode cX6_count 85 = .ok (.invokevirtual 155, 3) := by decide +kernel
theorem dX6_count_88 : decode cX6_count 88 = .ok (.ifCond .ne 7, 3) := by decide +kernel
theorem dX6_count_91 : decode cX6_count 91 = .ok (.iconst 1, 1) := by decide +kernel
theorem dX6_count_92 : decode cX6_count 92 = .ok (.goto 4, 3) := by decide +kernel
theorem dX6_count_95 : decode cX6_count 95 = .ok (.iconst 0, 1) := by decide +kernel
theorem dX6_count_96 : decode cX6_count 96 = .ok (.ireturn, 1) := by decide +kernel
theorem dX6_count_97 : decode cX6_count 97 = .ok (.aload_n 0, 1) := by decide +kernel
theorem dX6_count_98 : decode cX6_count 98 = .ok (.getfield 10, 3) := by decide +kernel
theorem dX6_count_101 : decode cX6_count 101 = .ok (.invokevirtual 161, 3) := by decide +kernel
theorem dX6_count_104 : decode cX6_count 104 = .ok (.ireturn, 1) := by decide +kernel
theorem dX6_count_105 : decode cX6_count 105 = .ok (.aload_n 0, 1) := by decide +kernel
theorem dX6_count_106 : decode cX6_count 106 = .ok (.getfield 20, 3) := by decide +kernel
theorem dX6_count_109 : decode cX6_count 109 = .ok (.ireturn, 1) := by decide +kernel
theorem dX6_count_110 : decode cX6_count 110 = .ok (.aload_n 0, 1) := by decide +kernel
theorem dX6_count_111 : decode cX6_count 111 = .ok (.getfield 27, 3) := by decide +kernel
theorem dX6_count_114 : decode cX6_count 114 = .ok (.getfield 82, 3) := by decide +kernel
theorem dX6_count_117 : decode cX6_count 117 = .ok (.ireturn, 1) := by decide +kernel
theorem dX6_count_118 : decode cX6_count 118 = .ok (.iconst (-1), 1) := by decide +kernel
theorem dX6_count_119 : decode cX6_count 119 = .ok (.ireturn, 1) := by decide +kernel
set_option maxRecDepth 20000 in
theorem ggX6_guest_X0_isGuest : GoodIn wsX6_guest wsX0_isGuest := goodIn_r _ [6, 7, 53, 54, 55] (by decide +kernel) (by decide +kernel)
set_option maxRecDepth 20000 in
theorem gX6_guest_X0_isGuest : GoodIn wsX6_guest (wsV RX6 66 RX0 yX0_isGuest wsX0_isGuest) := goodIn_app (goodIn_of _ (by decide +kernel)) ggX6_guest_X0_isGuest
set_option maxRecDepth 20000 in
theorem ggX6_guest_X0_total : GoodIn wsX6_guest wsX0_total := goodIn_r _ [11, 12, 13, 14, 5, 15, 16, 53, 54, 55] (by decide +kernel) (by decide +kernel)
set_option maxRecDepth 20000 in
theorem gX6_guest_X0_total : GoodIn wsX6_guest (wsV RX6 78 RX0 yX0_total wsX0_total) := goodIn_app (goodIn_of _ (by decide +kernel)) ggX6_guest_X0_total
set_option maxRecDepth 20000 in
theorem ggX6_guest_X0_worth : GoodIn wsX6_guest wsX0_worth := goodIn_r _ [20, 21, 22, 23, 5, 24, 25, 16, 53, 54, 55] (by decide +kernel) (by decide +kernel)
set_option maxRecDepth 20000 in
theorem gX6_guest_X0_worth : GoodIn wsX6_guest (wsV RX6 164 RX0 yX0_worth wsX0_worth) := goodIn_app (goodIn_of _ (by decide +kernel)) ggX6_guest_X0_worth
set_option maxRecDepth 20000 in
theorem ggX6_guest_X0_crumbsOf : GoodIn wsX6_guest wsX0_crumbsOf := goodIn_r _ [29, 25, 53, 54, 55] (by decide +kernel) (by decide +kernel)
set_option maxRecDepth 20000 in
theorem gX6_guest_X0_crumbsOf : GoodIn wsX6_guest (wsV RX6 152 RX0 yX0_crumbsOf wsX0_crumbsOf) := goodIn_app (goodIn_of _ (by decide +kernel)) ggX6_guest_X0_crumbsOf
set_option maxRecDepth 20000 in
theorem ggX6_guest_X6_lowestNumerator : GoodIn wsX6_guest wsX6_lowestNumerator := goodIn_r _ [33, 34, 35, 32, 36, 37] (by decide +kernel) (by decide +kernel)
set_option maxRecDepth 20000 in
theorem gX6_guest_X6_lowestNumerator : GoodIn wsX6_guest (va_wsS RX6 167 yX6_lowestNumerator wsX6_lowestNumerator) := goodIn_app (goodIn_of _ (by decide +kernel)) ggX6_guest_X6_lowestNumerator
set_option maxRecDepth 20000 in
theorem ggX6_guest_X6_lowestDenominator : GoodIn wsX6_guest wsX6_lowestDenominator := goodIn_r _ [40, 34, 35, 32, 36, 37] (by decide +kernel) (by decide +kernel)
set_option maxRecDepth 20000 in
theorem gX6_guest_X6_lowestDenominator : GoodIn wsX6_guest (va_wsS RX6 170 yX6_lowestDenominator wsX6_lowestDenominator) := goodIn_app (goodIn_of _ (by decide +kernel)) ggX6_guest_X6_lowestDenominator
set_option maxRecDepth 20000 in
theorem ggX6_guest_X0_spansOf : GoodIn wsX6_guest wsX0_spansOf := goodIn_r _ [44, 25, 53, 54, 55] (by decide +kernel) (by decide +kernel)
set_option maxRecDepth 20000 in
theorem gX6_guest_X0_spansOf : GoodIn wsX6_guest (wsV RX6 173 RX0 yX0_spansOf wsX0_spansOf) := goodIn_app (goodIn_of _ (by decide +kernel)) ggX6_guest_X0_spansOf
theorem dX6_guest_0 : decode cX6_guest 0 = .ok (.aload_n 0, 1) := by decide +kernel
theorem dX6_guest_1 : decode cX6_guest 1 = .ok (.getfield 10, 3) := by decide +kernel
theorem dX6_guest_4 : decode cX6_guest 4 = .ok (.iload_n 1, 1) := by decide +kernel
theorem dX6_guest_5 : decode cX6_guest 5 = .ok (.invokevirtual 66, 3) := by decide +kernel
theorem dX6_guest_8 : decode cX6_guest 8 = .ok (.ifCond .ne 5, 3) := by decide +kernel
theorem dX6_guest_11 : decode cX6_guest 11 = .ok (.iconst (-1), 1) := by decide +kernel
theorem dX6_guest_12 : decode cX6_guest 12 = .ok (.ireturn, 1) := by decide +kernel
theorem dX6_guest_13 : decode cX6_guest 13 = .ok (.iload_n 2, 1) := by decide +kernel
theorem dX6_guest_14 : decode cX6_guest 14 = .ok (.tableswitch 131 0 6 #[42, 51, 61, 70, 91, 112, 121], 42) := by decide +kernel
theorem dX6_guest_56 : decode cX6_guest 56 = .ok (.aload_n 0, 1) := by decide +kernel
theorem dX6_guest_57 : decode cX6_guest 57 = .ok (.getfield 10, 3) := by decide +kernel
theorem dX6_guest_60 : decode cX6_guest 60 = .ok (.iload_n 1, 1) := by decide +kernel
theorem dX6_guest_61 : decode cX6_guest 61 = .ok (.invokevirtual 78, 3) := by decide +kernel
theorem dX6_guest_64 : decode cX6_guest 64 = .ok (.ireturn, 1) := by decide +kernel
theorem dX6_guest_65 : decode cX6_guest 65 = .ok (.aload_n 0, 1) := by decide +kernel
theorem dX6_guest_66 : decode cX6_guest 66 = .ok (.getfield 10, 3) := by decide +kernel
theorem dX6_guest_69 : decode cX6_guest 69 = .ok (.iload_n 1, 1) := by decide +kernel
theorem dX6_guest_70 : decode cX6_guest 70 = .ok (.iload_n 1, 1) := by decide +kernel
theorem dX6_guest_71 : decode cX6_guest 71 = .ok (.invokevirtual 164, 3) := by decide +kernel
theorem dX6_guest_74 : decode cX6_guest 74 = .ok (.ireturn, 1) := by decide +kernel
theorem dX6_guest_75 : decode cX6_guest 75 = .ok (.aload_n 0, 1) := by decide +kernel
theorem dX6_guest_76 : decode cX6_guest 76 = .ok (.getfield 10, 3) := by decide +kernel
theorem dX6_guest_79 : decode cX6_guest 79 = .ok (.iload_n 1, 1) := by decide +kernel
theorem dX6_guest_80 : decode cX6_guest 80 = .ok (.invokevirtual 152, 3) := by decide +kernel
theorem dX6_guest_83 : decode cX6_guest 83 = .ok (.ireturn, 1) := by decide +kernel
theorem dX6_guest_84 : decode cX6_guest 84 = .ok (.aload_n 0, 1) := by decide +kernel
theorem dX6_guest_85 : decode cX6_guest 85 = .ok (.getfield 10, 3) := by decide +kernel
theorem dX6_guest_88 : decode cX6_guest 88 = .ok (.iload_n 1, 1) := by decide +kernel
theorem dX6_guest_89 : decode cX6_guest 89 = .ok (.iload_n 1, 1) := by decide +kernel
theorem dX6_guest_90 : decode cX6_guest 90 = .ok (.invokevirtual 164, 3) := by decide +kernel
theorem dX6_guest_93 : decode cX6_guest 93 = .ok (.aload_n 0, 1) := by decide +kernel
theorem dX6_guest_94 : decode cX6_guest 94 = .ok (.getfield 10, 3) := by decide +kernel
theorem dX6_guest_97 : decode cX6_guest 97 = .ok (.iload_n 1, 1) := by decide +kernel
theorem dX6_guest_98 : decode cX6_guest 98 = .ok (.invokevirtual 78, 3) := by decide +kernel
theorem dX6_guest_101 : decode cX6_guest 101 = .ok (.invokestatic 167, 3) := by decide +kernel
theorem dX6_guest_104 : decode cX6_guest 104 = .ok (.ireturn, 1) := by decide +kernel
theorem dX6_guest_105 : decode cX6_guest 105 = .ok (.aload_n 0, 1) := by decide +kernel
theorem dX6_guest_106 : decode cX6_guest 106 = .ok (.getfield 10, 3) := by decide +kernel
theorem dX6_guest_109 : decode cX6_guest 109 = .ok (.iload_n 1, 1) := by decide +kernel
theorem dX6_guest_110 : decode cX6_guest 110 = .ok (.iload_n 1, 1) := by decide +kernel
theorem dX6_guest_111 : decode cX6_guest 111 = .ok (.invokevirtual 164, 3) := by decide +kernel
theorem dX6_guest_114 : decode cX6_guest 114 = .ok (.aload_n 0, 1) := by decide +kernel
theorem dX6_guest_115 : decode cX6_guest 115 = .ok (.getfield 10, 3) := by decide +kernel
theorem dX6_guest_118 : decode cX6_guest 118 = .ok (.iload_n 1, 1) := by decide +kernel
theorem dX6_guest_119 : decode cX6_guest 119 = .ok (.invokevirtual 78, 3) := by decide +kernel
theorem dX6_guest_122 : decode cX6_guest 122 = .ok (.invokestatic 170, 3) := by decide +kernel
theorem dX6_guest_125 : decode cX6_guest 125 = .ok (.ireturn, 1) := by decide +kernel
theorem dX6_guest_126 : decode cX6_guest 126 = .ok (.aload_n 0, 1) := by decide +kernel
theorem dX6_guest_127 : decode cX6_guest 127 = .ok (.getfield 10, 3) := by decide +kernel
theorem dX6_guest_130 : decode cX6_guest 130 = .ok (.iload_n 1, 1) := by decide +kernel
theorem dX6_guest_131 : decode cX6_guest 131 = .ok (.invokevirtual 173, 3) := by decide +kernel
theorem dX6_guest_134 : decode cX6_guest 134 = .ok (.ireturn, 1) := by decide +kernel
theorem dX6_guest_135 : decode cX6_guest 135 = .ok (.aload_n 0, 1) := by decide +kernel
theorem dX6_guest_136 : decode cX6_guest 136 = .ok (.getfield 10, 3) := by decide +kernel
theorem dX6_guest_139 : decode cX6_guest 139 = .ok (.iload_n 1, 1) := by decide +kernel
theorem dX6_guest_140 : decode cX6_guest 140 = .ok (.iconst (-1), 1) := by decide +kernel
theorem dX6_guest_141 : decode cX6_guest 141 = .ok (.invokevirtual 164, 3) := by decide +kernel
theorem dX6_guest_144 : decode cX6_guest 144 = .ok (.ireturn, 1) := by decide +kernel
theorem dX6_guest_145 : decode cX6_guest 145 = .ok (.iconst (-1), 1) := by decide +kernel
theorem dX6_guest_146 : decode cX6_guest 146 = .ok (.ireturn, 1) := by decide +kernel
theorem dX6_crumb_0 : decode cX6_crumb 0 = .ok (.iload_n 1, 1) := by decide +kernel
theorem dX6_crumb_1 : decode cX6_crumb 1 = .ok (.ifCond .lt 9, 3) := by decide +kernel
theorem dX6_crumb_4 : decode cX6_crumb 4 = .ok (.iload_n 1, 1) := by decide +kernel
theorem dX6_crumb_5 : decode cX6_crumb 5 = .ok (.bipush 24, 2) := by decide +kernel
theorem dX6_crumb_7 : decode cX6_crumb 7 = .ok (.if_icmp .lt 5, 3) := by decide +kernel
theorem dX6_crumb_10 : decode cX6_crumb 10 = .ok (.iconst (-1), 1) := by decide +kernel
theorem dX6_crumb_11 : decode cX6_crumb 11 = .ok (.ireturn, 1) := by decide +kernel
theorem dX6_crumb_12 : decode cX6_crumb 12 = .ok (.aload_n 0, 1) := by decide +kernel
theorem dX6_crumb_13 : decode cX6_crumb 13 = .ok (.getfield 10, 3) := by decide +kernel
theorem dX6_crumb_16 : decode cX6_crumb 16 = .ok (.getfield 176, 3) := by decide +kernel
theorem dX6_crumb_19 : decode cX6_crumb 19 = .ok (.iload_n 1, 1) := by decide +kernel
theorem dX6_crumb_20 : decode cX6_crumb 20 = .ok (.iaload, 1) := by decide +kernel
theorem dX6_crumb_21 : decode cX6_crumb 21 = .ok (.istore_n 2, 1) := by decide +kernel
theorem dX6_crumb_22 : decode cX6_crumb 22 = .ok (.iload_n 2, 1) := by decide +kernel
theorem dX6_crumb_23 : decode cX6_crumb 23 = .ok (.iconst (-1), 1) := by decide +kernel
theorem dX6_crumb_24 : decode cX6_crumb 24 = .ok (.if_icmp .ne 8, 3) := by decide +kernel
theorem dX6_crumb_27 : decode cX6_crumb 27 = .ok (.bipush (-9), 2) := by decide +kernel
theorem dX6_crumb_29 : decode cX6_crumb 29 = .ok (.goto 4, 3) := by decide +kernel
theorem dX6_crumb_32 : decode cX6_crumb 32 = .ok (.iload_n 2, 1) := by decide +kernel
theorem dX6_crumb_33 : decode cX6_crumb 33 = .ok (.ireturn, 1) := by decide +kernel
set_option maxRecDepth 20000 in
theorem ggX6_value_X0_isGuest : GoodIn wsX6_value wsX0_isGuest := goodIn_r _ [7, 8, 17, 18, 19] (by decide +kernel) (by decide +kernel)
set_option maxRecDepth 20000 in
theorem gX6_value_X0_isGuest : GoodIn wsX6_value (wsV RX6 66 RX0 yX0_isGuest wsX0_isGuest) := goodIn_app (goodIn_of _ (by decide +kernel)) ggX6_value_X0_isGuest
theorem dX6_value_0 : decode cX6_value 0 = .ok (.aload_n 0, 1) := by decide +kernel
theorem dX6_value_1 : decode cX6_value 1 = .ok (.getfield 10, 3) := by decide +kernel
theorem dX6_value_4 : decode cX6_value 4 = .ok (.iload_n 1, 1) := by decide +kernel
theorem dX6_value_5 : decode cX6_value 5 = .ok (.invokevirtual 66, 3) := by decide +kernel
theorem dX6_value_8 : decode cX6_value 8 = .ok (.ifCond .eq 13, 3) := by decide +kernel
theorem dX6_value_11 : decode cX6_value 11 = .ok (.iload_n 2, 1) := by decide +kernel
theorem dX6_value_12 : decode cX6_value 12 = .ok (.ifCond .lt 9, 3) := by decide +kernel
theorem dX6_value_15 : decode cX6_value 15 = .ok (.iload_n 2, 1) := by decide +kernel
theorem dX6_value_16 : decode cX6_value 16 = .ok (.bipush 24, 2) := by decide +kernel
theorem dX6_value_18 : decode cX6_value 18 = .ok (.if_icmp .lt 5, 3) := by decide +kernel
theorem dX6_value_21 : decode cX6_value 21 = .ok (.iconst (-1), 1) := by decide +kernel
theorem dX6_value_22 : decode cX6_value 22 = .ok (.ireturn, 1) := by decide +kernel
theorem dX6_value_23 : decode cX6_value 23 = .ok (.aload_n 0, 1) := by decide +kernel
theorem dX6_value_24 : decode cX6_value 24 = .ok (.getfield 10, 3) := by decide +kernel
theorem dX6_value_27 : decode cX6_value 27 = .ok (.getfield 177, 3) := by decide +kernel
theorem dX6_value_30 : decode cX6_value 30 = .ok (.iload_n 1, 1) := by decide +kernel
theorem dX6_value_31 : decode cX6_value 31 = .ok (.aaload, 1) := by decide +kernel
theorem dX6_value_32 : decode cX6_value 32 = .ok (.iload_n 2, 1) := by decide +kernel
theorem dX6_value_33 : decode cX6_value 33 = .ok (.iaload, 1) := by decide +kernel
theorem dX6_value_34 : decode cX6_value 34 = .ok (.ireturn, 1) := by decide +kernel
set_option maxRecDepth 20000 in
theorem ggX6_envy_X6_isPair : GoodIn wsX6_envy wsX6_isPair := goodIn_r _ [6, 1, 7, 8, 9, 10, 11, 12, 31, 32, 33, 34, 35, 36, 37, 38, 39, 40, 41] (by decide +kernel) (by decide +kernel)
set_option maxRecDepth 20000 in
theorem gX6_envy_X6_isPair : GoodIn wsX6_envy (wsV RX6 121 RX6 yX6_isPair wsX6_isPair) := goodIn_app (goodIn_of _ (by decide +kernel)) ggX6_envy_X6_isPair
set_option maxRecDepth 20000 in
theorem ggX6_envy_X0_envyOf : GoodIn wsX6_envy wsX0_envyOf := goodIn_r _ [16, 17, 18, 19, 20, 21, 22, 23, 10, 24, 25, 26, 27, 28, 29, 30, 39, 40, 41] (by decide +kernel) (by decide +kernel)
set_option maxRecDepth 20000 in
theorem gX6_envy_X0_envyOf : GoodIn wsX6_envy (wsV RX6 180 RX0 yX0_envyOf wsX0_envyOf) := goodIn_app (goodIn_of _ (by decide +kernel)) ggX6_envy_X0_envyOf
theorem dX6_envy_0 : decode cX6_envy 0 = .ok (.aload_n 0, 1) := by decide +kernel
theorem dX6_envy_1 : decode cX6_envy 1 = .ok (.iload_n 1, 1) := by decide +kernel
theorem dX6_envy_2 : decode cX6_envy 2 = .ok (.iload_n 2, 1) := by decide +kernel
theorem dX6_envy_3 : decode cX6_envy 3 = .ok (.invokevirtual 121, 3) := by decide +kernel
theorem dX6_envy_6 : decode cX6_envy 6 = .ok (.ifCond .eq 15, 3) := by decide +kernel
theorem dX6_envy_9 : decode cX6_envy 9 = .ok (.aload_n 0, 1) := by decide +kernel
theorem dX6_envy_10 : decode cX6_envy 10 = .ok (.getfield 10, 3) := by decide +kernel
theorem dX6_envy_13 : decode cX6_envy 13 = .ok (.iload_n 1, 1) := by decide +kernel
theorem dX6_envy_14 : decode cX6_envy 14 = .ok (.iload_n 2, 1) := by decide +kernel
theorem dX6_envy_15 : decode cX6_envy 15 = .ok (.invokevirtual 180, 3) := by decide +kernel
theorem dX6_envy_18 : decode cX6_envy 18 = .ok (.goto 4, 3) := by decide +kernel
theorem dX6_envy_21 : decode cX6_envy 21 = .ok (.iconst (-1), 1) := by decide +kernel
theorem dX6_envy_22 : decode cX6_envy 22 = .ok (.ireturn, 1) := by decide +kernel
set_option maxRecDepth 20000 in
theorem ggX6_ring_X3_find : GoodIn wsX6_ring wsX3_find := goodIn_r _ [9, 10, 11, 12, 13, 14, 15, 8, 16, 17, 18, 19, 20, 21, 22, 23, 24, 25, 26, 27, 28, 29, 30, 31, 32, 33, 34, 35, 36, 37, 38, 39, 40, 41, 42, 43, 44, 45, 46, 47, 48, 49, 50, 51, 52, 53, 54, 55, 56, 57, 58, 59, 60, 61, 62, 63, 64, 65, 79, 80, 81, 74, 75, 76, 77, 78] (by decide +kernel) (by decide +kernel)
set_option maxRecDepth 20000 in
theorem gX6_ring_X3_find : GoodIn wsX6_ring (wsV RX6 136 RX3 yX3_find wsX3_find) := goodIn_app (goodIn_of _ (by decide +kernel)) ggX6_ring_X3_find
theorem dX6_ring_0 : decode cX6_ring 0 = .ok (.iload_n 1, 1) := by decide +kernel
theorem dX6_ring_1 : decode cX6_ring 1 = .ok (.ifCond .ge 5, 3) := by decide +kernel
theorem dX6_ring_4 : decode cX6_ring 4 = .ok (.iconst (-1), 1) := by decide +kernel
theorem dX6_ring_5 : decode cX6_ring 5 = .ok (.ireturn, 1) := by decide +kernel
theorem dX6_ring_6 : decode cX6_ring 6 = .ok (.iload_n 1, 1) := by decide +kernel
theorem dX6_ring_7 : decode cX6_ring 7 = .ok (.aload_n 0, 1) := by decide +kernel
theorem dX6_ring_8 : decode cX6_ring 8 = .ok (.getfield 41, 3) := by decide +kernel
theorem dX6_ring_11 : decode cX6_ring 11 = .ok (.aload_n 0, 1) := by decide +kernel
theorem dX6_ring_12 : decode cX6_ring 12 = .ok (.getfield 10, 3) := by decide +kernel
theorem dX6_ring_15 : decode cX6_ring 15 = .ok (.invokevirtual 136, 3) := by decide +kernel
theorem dX6_ring_18 : decode cX6_ring 18 = .ok (.if_icmp .ge 18, 3) := by decide +kernel
theorem dX6_ring_21 : decode cX6_ring 21 = .ok (.aload_n 0, 1) := by decide +kernel
theorem dX6_ring_22 : decode cX6_ring 22 = .ok (.getfield 41, 3) := by decide +kernel
theorem dX6_ring_25 : decode cX6_ring 25 = .ok (.getfield 140, 3) := by decide +kernel
theorem dX6_ring_28 : decode cX6_ring 28 = .ok (.getfield 183, 3) := by decide +kernel
theorem dX6_ring_31 : decode cX6_ring 31 = .ok (.iload_n 1, 1) := by decide +kernel
theorem dX6_ring_32 : decode cX6_ring 32 = .ok (.iaload, 1) := by decide +kernel
theorem dX6_ring_33 : decode cX6_ring 33 = .ok (.goto 5, 3) := by decide +kernel
theorem dX6_ring_36 : decode cX6_ring 36 = .ok (.bipush (-9), 2) := by decide +kernel
theorem dX6_ring_38 : decode cX6_ring 38 = .ok (.ireturn, 1) := by decide +kernel
set_option maxRecDepth 20000 in
theorem ggX6_middle_X0_isGuest : GoodIn wsX6_middle wsX0_isGuest := goodIn_r _ [6, 7, 29, 30, 31] (by decide +kernel) (by decide +kernel)
set_option maxRecDepth 20000 in
theorem gX6_middle_X0_isGuest : GoodIn wsX6_middle (wsV RX6 66 RX0 yX0_isGuest wsX0_isGuest) := goodIn_app (goodIn_of _ (by decide +kernel)) ggX6_middle_X0_isGuest
set_option maxRecDepth 20000 in
theorem ggX6_middle_X0_findCut : GoodIn wsX6_middle wsX0_findCut := goodIn_r _ [11, 12, 13, 14, 15, 16, 17, 18, 19, 5, 20, 29, 30, 31] (by decide +kernel) (by decide +kernel)
set_option maxRecDepth 20000 in
theorem gX6_middle_X0_findCut : GoodIn wsX6_middle (wsV RX6 127 RX0 yX0_findCut wsX0_findCut) := goodIn_app (goodIn_of _ (by decide +kernel)) ggX6_middle_X0_findCut
theorem dX6_middle_0 : decode cX6_middle 0 = .ok (.aload_n 0, 1) := by decide +kernel
theorem dX6_middle_1 : decode cX6_middle 1 = .ok (.getfield 10, 3) := by decide +kernel
theorem dX6_middle_4 : decode cX6_middle 4 = .ok (.iload_n 1, 1) := by decide +kernel
theorem dX6_middle_5 : decode cX6_middle 5 = .ok (.invokevirtual 66, 3) := by decide +kernel
theorem dX6_middle_8 : decode cX6_middle 8 = .ok (.ifCond .eq 17, 3) := by decide +kernel
theorem dX6_middle_11 : decode cX6_middle 11 = .ok (.aload_n 0, 1) := by decide +kernel
theorem dX6_middle_12 : decode cX6_middle 12 = .ok (.getfield 10, 3) := by decide +kernel
theorem dX6_middle_15 : decode cX6_middle 15 = .ok (.iload_n 1, 1) := by decide +kernel
theorem dX6_middle_16 : decode cX6_middle 16 = .ok (.iconst 0, 1) := by decide +kernel
theorem dX6_middle_17 : decode cX6_middle 17 = .ok (.bipush 23, 2) := by decide +kernel
theorem dX6_middle_19 : decode cX6_middle 19 = .ok (.invokevirtual 127, 3) := by decide +kernel
theorem dX6_middle_22 : decode cX6_middle 22 = .ok (.goto 4, 3) := by decide +kernel
theorem dX6_middle_25 : decode cX6_middle 25 = .ok (.iconst (-1), 1) := by decide +kernel
theorem dX6_middle_26 : decode cX6_middle 26 = .ok (.ireturn, 1) := by decide +kernel
set_option maxRecDepth 20000 in
theorem ggX6_best_X6_searchOnce : GoodIn wsX6_best wsX6_searchOnce := goodIn_r _ [12, 13, 3, 1, 14, 15, 16, 17, 18, 19, 20, 21, 22, 23, 24, 25, 26, 27, 28, 29, 30, 31, 32, 33, 34, 35, 36, 37, 38, 39, 40, 41, 42, 43, 44, 45, 46, 47, 48, 49, 50, 51, 52, 53, 54, 55, 56, 57, 58, 59, 60, 61, 62, 63, 64, 65, 66, 67, 68, 69, 70, 71, 72, 73, 74, 75, 76, 77, 78, 79, 80, 81, 82, 83, 84, 85, 86, 87, 88, 89, 90, 91, 92, 93, 94, 95, 96, 97, 98, 99, 110, 111, 112, 113, 114, 115, 116, 117, 121, 122, 123, 124, 125, 126, 127, 128, 129, 130, 131, 132, 133, 134, 118, 119, 120, 135, 136, 137] (by decide +kernel) (by decide +kernel)
set_option maxRecDepth 20000 in
theorem gX6_best_X6_searchOnce : GoodIn wsX6_best (wsV RX6 188 RX6 yX6_searchOnce wsX6_searchOnce) := goodIn_app (goodIn_of _ (by decide +kernel)) ggX6_best_X6_searchOnce
set_option maxRecDepth 20000 in
theorem ggX6_best_X6_lowestNumerator : GoodIn wsX6_best wsX6_lowestNumerator := goodIn_r _ [102, 103, 104, 11, 105, 106] (by decide +kernel) (by decide +kernel)
set_option maxRecDepth 20000 in
theorem gX6_best_X6_lowestNumerator : GoodIn wsX6_best (va_wsS RX6 167 yX6_lowestNumerator wsX6_lowestNumerator) := goodIn_app (goodIn_of _ (by decide +kernel)) ggX6_best_X6_lowestNumerator
set_option maxRecDepth 20000 in
theorem ggX6_best_X6_lowestDenominator : GoodIn wsX6_best wsX6_lowestDenominator := goodIn_r _ [109, 103, 104, 11, 105, 106] (by decide +kernel) (by decide +kernel)
set_option maxRecDepth 20000 in
theorem gX6_best_X6_lowestDenominator : GoodIn wsX6_best (va_wsS RX6 170 yX6_lowestDenominator wsX6_lowestDenominator) := goodIn_app (goodIn_of _ (by decide +kernel)) ggX6_best_X6_lowestDenominator
theorem dX6_best_0 : decode cX6_best 0 = .ok (.iload_n 1, 1) := by decide +kernel
theorem dX6_best_1 : decode cX6_best 1 = .ok (.ifCond .lt 8, 3) := by decide +kernel
theorem dX6_best_4 : decode cX6_best 4 = .ok (.iload_n 1, 1) := by decide +kernel
theorem dX6_best_5 : decode cX6_best 5 = .ok (.iconst 5, 1) := by decide +kernel
theorem dX6_best_6 : decode cX6_best 6 = .ok (.if_icmp .le 5, 3) := by decide +kernel
theorem dX6_best_9 : decode cX6_best 9 = .ok (.iconst (-1), 1) := by decide +kernel
theorem dX6_best_10 : decode cX6_best 10 = .ok (.ireturn, 1) := by decide +kernel
theorem dX6_best_11 : decode cX6_best 11 = .ok (.aload_n 0, 1) := by decide +kernel
theorem dX6_best_12 : decode cX6_best 12 = .ok (.getfield 10, 3) := by decide +kernel
theorem dX6_best_15 : decode cX6_best 15 = .ok (.getfield 56, 3) := by decide +kernel
theorem dX6_best_18 : decode cX6_best 18 = .ok (.iconst 1, 1) := by decide +kernel
theorem dX6_best_19 : decode cX6_best 19 = .ok (.if_icmp .ge 6, 3) := by decide +kernel
theorem dX6_best_22 : decode cX6_best 22 = .ok (.bipush (-2), 2) := by decide +kernel
theorem dX6_best_24 : decode cX6_best 24 = .ok (.ireturn, 1) := by decide +kernel
theorem dX6_best_25 : decode cX6_best 25 = .ok (.aload_n 0, 1) := by decide +kernel
theorem dX6_best_26 : decode cX6_best 26 = .ok (.invokevirtual 188, 3) := by decide +kernel
theorem dX6_best_29 : decode cX6_best 29 = .ok (.iload_n 1, 1) := by decide +kernel
theorem dX6_best_30 : decode cX6_best 30 = .ok (.tableswitch 70 0 2 #[26, 44, 62], 26) := by decide +kernel
theorem dX6_best_56 : decode cX6_best 56 = .ok (.aload_n 0, 1) := by decide +kernel
theorem dX6_best_57 : decode cX6_best 57 = .ok (.getfield 48, 3) := by decide +kernel
theorem dX6_best_60 : decode cX6_best 60 = .ok (.getfield 191, 3) := by decide +kernel
theorem dX6_best_63 : decode cX6_best 63 = .ok (.aload_n 0, 1) := by decide +kernel
theorem dX6_best_64 : decode cX6_best 64 = .ok (.getfield 48, 3) := by decide +kernel
theorem dX6_best_67 : decode cX6_best 67 = .ok (.getfield 194, 3) := by decide +kernel
theorem dX6_best_70 : decode cX6_best 70 = .ok (.invokestatic 167, 3) := by decide +kernel
theorem dX6_best_73 : decode cX6_best 73 = .ok (.ireturn, 1) := by decide +kernel
theorem dX6_best_74 : decode cX6_best 74 = .ok (.aload_n 0, 1) := by decide +kernel
theorem dX6_best_75 : decode cX6_best 75 = .ok (.getfield 48, 3) := by decide +kernel
theorem dX6_best_78 : decode cX6_best 78 = .ok (.getfield 191, 3) := by decide +kernel
theorem dX6_best_81 : decode cX6_best 81 = .ok (.aload_n 0, 1) := by decide +kernel
theorem dX6_best_82 : decode cX6_best 82 = .ok (.getfield 48, 3) := by decide +kernel
theorem dX6_best_85 : decode cX6_best 85 = .ok (.getfield 194, 3) := by decide +kernel
theorem dX6_best_88 : decode cX6_best 88 = .ok (.invokestatic 170, 3) := by decide +kernel
theorem dX6_best_91 : decode cX6_best 91 = .ok (.ireturn, 1) := by decide +kernel
theorem dX6_best_92 : decode cX6_best 92 = .ok (.aload_n 0, 1) := by decide +kernel
theorem dX6_best_93 : decode cX6_best 93 = .ok (.getfield 48, 3) := by decide +kernel
theorem dX6_best_96 : decode cX6_best 96 = .ok (.getfield 197, 3) := by decide +kernel
theorem dX6_best_99 : decode cX6_best 99 = .ok (.ireturn, 1) := by decide +kernel
theorem dX6_best_100 : decode cX6_best 100 = .ok (.iload_n 1, 1) := by decide +kernel
theorem dX6_best_101 : decode cX6_best 101 = .ok (.iconst 2, 1) := by decide +kernel
theorem dX6_best_102 : decode cX6_best 102 = .ok (.isub, 1) := by decide +kernel
theorem dX6_best_103 : decode cX6_best 103 = .ok (.istore_n 2, 1) := by decide +kernel
theorem dX6_best_104 : decode cX6_best 104 = .ok (.iload_n 2, 1) := by decide +kernel
theorem dX6_best_105 : decode cX6_best 105 = .ok (.aload_n 0, 1) := by decide +kernel
theorem dX6_best_106 : decode cX6_best 106 = .ok (.getfield 10, 3) := by decide +kernel
theorem dX6_best_109 : decode cX6_best 109 = .ok (.getfield 56, 3) := by decide +kernel
theorem dX6_best_112 : decode cX6_best 112 = .ok (.if_icmp .ge 15, 3) := by decide +kernel
theorem dX6_best_115 : decode cX6_best 115 = .ok (.aload_n 0, 1) := by decide +kernel
theorem dX6_best_116 : decode cX6_best 116 = .ok (.getfield 48, 3) := by decide +kernel
theorem dX6_best_119 : decode cX6_best 119 = .ok (.getfield 200, 3) := by decide +kernel
theorem dX6_best_122 : decode cX6_best 122 = .ok (.iload_n 2, 1) := by decide +kernel
theorem dX6_best_123 : decode cX6_best 123 = .ok (.iaload, 1) := by decide +kernel
theorem dX6_best_124 : decode cX6_best 124 = .ok (.goto 5, 3) := by decide +kernel
theorem dX6_best_127 : decode cX6_best 127 = .ok (.bipush (-9), 2) := by decide +kernel
theorem dX6_best_129 : decode cX6_best 129 = .ok (.ireturn, 1) := by decide +kernel
set_option maxRecDepth 20000 in
theorem ggX6_calm_X6_searchOnce : GoodIn wsX6_calm wsX6_searchOnce := goodIn_r _ [11, 12, 3, 1, 13, 14, 15, 16, 17, 18, 19, 20, 21, 22, 23, 24, 25, 26, 27, 28, 29, 30, 31, 32, 33, 34, 35, 36, 37, 38, 39, 40, 41, 42, 43, 44, 45, 46, 47, 48, 49, 50, 51, 52, 53, 54, 55, 56, 57, 58, 59, 60, 61, 62, 63, 64, 65, 66, 67, 68, 69, 70, 71, 72, 73, 74, 75, 76, 77, 78, 79, 80, 81, 82, 83, 84, 85, 86, 87, 88, 89, 90, 91, 92, 93, 94, 95, 96, 97, 98, 99, 100, 101, 102, 103, 104, 105, 106, 110, 111, 112, 113, 114, 115, 116, 117, 118, 119, 120, 121, 122, 123, 107, 108, 109, 124, 125, 126] (by decide +kernel) (by decide +kernel)
set_option maxRecDepth 20000 in
theorem gX6_calm_X6_searchOnce : GoodIn wsX6_calm (wsV RX6 188 RX6 yX6_searchOnce wsX6_searchOnce) := goodIn_app (goodIn_of _ (by decide +kernel)) ggX6_calm_X6_searchOnce
theorem dX6_calm_0 : decode cX6_calm 0 = .ok (.iload_n 1, 1) := by decide +kernel
theorem dX6_calm_1 : decode cX6_calm 1 = .ok (.ifCond .lt 8, 3) := by decide +kernel
theorem dX6_calm_4 : decode cX6_calm 4 = .ok (.iload_n 1, 1) := by decide +kernel
theorem dX6_calm_5 : decode cX6_calm 5 = .ok (.iconst 2, 1) := by decide +kernel
theorem dX6_calm_6 : decode cX6_calm 6 = .ok (.if_icmp .le 5, 3) := by decide +kernel
theorem dX6_calm_9 : decode cX6_calm 9 = .ok (.iconst (-1), 1) := by decide +kernel
theorem dX6_calm_10 : decode cX6_calm 10 = .ok (.ireturn, 1) := by decide +kernel
theorem dX6_calm_11 : decode cX6_calm 11 = .ok (.aload_n 0, 1) := by decide +kernel
theorem dX6_calm_12 : decode cX6_calm 12 = .ok (.getfield 10, 3) := by decide +kernel
theorem dX6_calm_15 : decode cX6_calm 15 = .ok (.getfield 56, 3) := by decide +kernel
theorem dX6_calm_18 : decode cX6_calm 18 = .ok (.iconst 2, 1) := by decide +kernel
theorem dX6_calm_19 : decode cX6_calm 19 = .ok (.if_icmp .ge 6, 3) := by decide +kernel
theorem dX6_calm_22 : decode cX6_calm 22 = .ok (.bipush (-2), 2) := by decide +kernel
theorem dX6_calm_24 : decode cX6_calm 24 = .ok (.ireturn, 1) := by decide +kernel
theorem dX6_calm_25 : decode cX6_calm 25 = .ok (.aload_n 0, 1) := by decide +kernel
theorem dX6_calm_26 : decode cX6_calm 26 = .ok (.invokevirtual 188, 3) := by decide +kernel
theorem dX6_calm_29 : decode cX6_calm 29 = .ok (.iload_n 1, 1) := by decide +kernel
theorem dX6_calm_30 : decode cX6_calm 30 = .ok (.ifCond .ne 11, 3) := by decide +kernel
theorem dX6_calm_33 : decode cX6_calm 33 = .ok (.aload_n 0, 1) := by decide +kernel
theorem dX6_calm_34 : decode cX6_calm 34 = .ok (.getfield 48, 3) := by decide +kernel
theorem dX6_calm_37 : decode cX6_calm 37 = .ok (.getfield 203, 3) := by decide +kernel
theorem dX6_calm_40 : decode cX6_calm 40 = .ok (.ireturn, 1) := by decide +kernel
theorem dX6_calm_41 : decode cX6_calm 41 = .ok (.aload_n 0, 1) := by decide +kernel
theorem dX6_calm_42 : decode cX6_calm 42 = .ok (.getfield 48, 3) := by decide +kernel
theorem dX6_calm_45 : decode cX6_calm 45 = .ok (.getfield 203, 3) := by decide +kernel
theorem dX6_calm_48 : decode cX6_calm 48 = .ok (.ifCond .ne 6, 3) := by decide +kernel
theorem dX6_calm_51 : decode cX6_calm 51 = .ok (.bipush (-9), 2) := by decide +kernel
theorem dX6_calm_53 : decode cX6_calm 53 = .ok (.ireturn, 1) := by decide +kernel
theorem dX6_calm_54 : decode cX6_calm 54 = .ok (.iload_n 1, 1) := by decide +kernel
theorem dX6_calm_55 : decode cX6_calm 55 = .ok (.iconst 1, 1) := by decide +kernel
theorem dX6_calm_56 : decode cX6_calm 56 = .ok (.if_icmp .ne 13, 3) := by decide +kernel
theorem dX6_calm_59 : decode cX6_calm 59 = .ok (.aload_n 0, 1) := by decide +kernel
theorem dX6_calm_60 : decode cX6_calm 60 = .ok (.getfield 48, 3) := by decide +kernel
theorem dX6_calm_63 : decode cX6_calm 63 = .ok (.getfield 206, 3) := by decide +kernel
theorem dX6_calm_66 : decode cX6_calm 66 = .ok (.goto 10, 3) := by decide +kernel
theorem dX6_calm_69 : decode cX6_calm 69 = .ok (.aload_n 0, 1) := by decide +kernel
theorem dX6_calm_70 : decode cX6_calm 70 = .ok (.getfield 48, 3) := by decide +kernel
theorem dX6_calm_73 : decode cX6_calm 73 = .ok (.getfield 209, 3) := by decide +kernel
theorem dX6_calm_76 : decode cX6_calm 76 = .ok (.ireturn, 1) := by decide +kernel
set_option maxRecDepth 20000 in
theorem ggX6_calls_X6_isMove : GoodIn wsX6_calls wsX6_isMove := goodIn_r _ [7, 2, 8, 43, 44, 45, 46, 47, 48, 49, 50, 51, 52, 53] (by decide +kernel) (by decide +kernel)
set_option maxRecDepth 20000 in
theorem gX6_calls_X6_isMove : GoodIn wsX6_calls (wsV RX6 107 RX6 yX6_isMove wsX6_isMove) := goodIn_app (goodIn_of _ (by decide +kernel)) ggX6_calls_X6_isMove
set_option maxRecDepth 20000 in
theorem ggX6_calls_X2_pass : GoodIn wsX6_calls wsX2_pass := goodIn_r _ [13, 14, 15, 16, 17, 18, 19, 20, 21, 12, 22, 23, 24, 25, 26, 27, 28, 29, 30, 31, 32, 33, 34, 35, 36, 37, 38, 39, 40, 41, 42, 51, 52, 53, 54] (by decide +kernel) (by decide +kernel)
set_option maxRecDepth 20000 in
theorem gX6_calls_X2_pass : GoodIn wsX6_calls (wsV RX6 110 RX2 yX2_pass wsX2_pass) := goodIn_app (goodIn_of _ (by decide +kernel)) ggX6_calls_X2_pass
theorem dX6_calls_0 : decode cX6_calls 0 = .ok (.aload_n 0, 1) := by decide +kernel
theorem dX6_calls_1 : decode cX6_calls 1 = .ok (.iload_n 1, 1) := by decide +kernel
theorem dX6_calls_2 : decode cX6_calls 2 = .ok (.iload_n 2, 1) := by decide +kernel
theorem dX6_calls_3 : decode cX6_calls 3 = .ok (.invokevirtual 107, 3) := by decide +kernel
theorem dX6_calls_6 : decode cX6_calls 6 = .ok (.ifCond .eq 19, 3) := by decide +kernel
theorem dX6_calls_9 : decode cX6_calls 9 = .ok (.aload_n 0, 1) := by decide +kernel
theorem dX6_calls_10 : decode cX6_calls 10 = .ok (.getfield 34, 3) := by decide +kernel
theorem dX6_calls_13 : decode cX6_calls 13 = .ok (.aload_n 0, 1) := by decide +kernel
theorem dX6_calls_14 : decode cX6_calls 14 = .ok (.getfield 10, 3) := by decide +kernel
theorem dX6_calls_17 : decode cX6_calls 17 = .ok (.iload_n 1, 1) := by decide +kernel
theorem dX6_calls_18 : decode cX6_calls 18 = .ok (.iload_n 2, 1) := by decide +kernel
theorem dX6_calls_19 : decode cX6_calls 19 = .ok (.invokevirtual 110, 3) := by decide +kernel
theorem dX6_calls_22 : decode cX6_calls 22 = .ok (.goto 4, 3) := by decide +kernel
theorem dX6_calls_25 : decode cX6_calls 25 = .ok (.iconst (-1), 1) := by decide +kernel
theorem dX6_calls_26 : decode cX6_calls 26 = .ok (.ireturn, 1) := by decide +kernel
set_option maxRecDepth 20000 in
theorem ggX6_record_X6_dropOldest : GoodIn wsX6_record wsX6_dropOldest := goodIn_r _ [9, 2, 1, 30, 31, 32, 33, 34, 35, 36, 37] (by decide +kernel) (by decide +kernel)
set_option maxRecDepth 20000 in
theorem gX6_record_X6_dropOldest : GoodIn wsX6_record (wsV RX6 212 RX6 yX6_dropOldest wsX6_dropOldest) := goodIn_app (goodIn_of _ (by decide +kernel)) ggX6_record_X6_dropOldest
set_option maxRecDepth 20000 in
theorem ggX6_record_X0_become : GoodIn wsX6_record wsX0_become := goodIn_r _ [14, 15, 16, 17, 18, 19, 20, 13, 21, 22, 23, 24, 25, 26, 27, 28, 29, 38, 39, 40] (by decide +kernel) (by decide +kernel)
set_option maxRecDepth 20000 in
theorem gX6_record_X0_become : GoodIn wsX6_record (wsV RX6 148 RX0 yX0_become wsX0_become) := goodIn_app (goodIn_of _ (by decide +kernel)) ggX6_record_X0_become
theorem dX6_record_0 : decode cX6_record 0 = .ok (.aload_n 0, 1) := by decide +kernel
theorem dX6_record_1 : decode cX6_record 1 = .ok (.getfield 20, 3) := by decide +kernel
theorem dX6_record_4 : decode cX6_record 4 = .ok (.iconst 5, 1) := by decide +kernel
theorem dX6_record_5 : decode cX6_record 5 = .ok (.if_icmp .lt 7, 3) := by decide +kernel
theorem dX6_record_8 : decode cX6_record 8 = .ok (.aload_n 0, 1) := by decide +kernel
theorem dX6_record_9 : decode cX6_record 9 = .ok (.invokevirtual 212, 3) := by decide +kernel
theorem dX6_record_12 : decode cX6_record 12 = .ok (.aload_n 0, 1) := by decide +kernel
theorem dX6_record_13 : decode cX6_record 13 = .ok (.getfield 16, 3) := by decide +kernel
theorem dX6_record_16 : decode cX6_record 16 = .ok (.aload_n 0, 1) := by decide +kernel
theorem dX6_record_17 : decode cX6_record 17 = .ok (.getfield 20, 3) := by decide +kernel
theorem dX6_record_20 : decode cX6_record 20 = .ok (.aaload, 1) := by decide +kernel
theorem dX6_record_21 : decode cX6_record 21 = .ok (.aload_n 0, 1) := by decide +kernel
theorem dX6_record_22 : decode cX6_record 22 = .ok (.getfield 10, 3) := by decide +kernel
theorem dX6_record_25 : decode cX6_record 25 = .ok (.invokevirtual 148, 3) := by decide +kernel
theorem dX6_record_28 : decode cX6_record 28 = .ok (.aload_n 0, 1) := by decide +kernel
theorem dX6_record_29 : decode cX6_record 29 = .ok (.dup, 1) := by decide +kernel
theorem dX6_record_30 : decode cX6_record 30 = .ok (.getfield 20, 3) := by decide +kernel
theorem dX6_record_33 : decode cX6_record 33 = .ok (.iconst 1, 1) := by decide +kernel
theorem dX6_record_34 : decode cX6_record 34 = .ok (.iadd, 1) := by decide +kernel
theorem dX6_record_35 : decode cX6_record 35 = .ok (.putfield 20, 3) := by decide +kernel
theorem dX6_record_38 : decode cX6_record 38 = .ok (.aload_n 0, 1) := by decide +kernel
theorem dX6_record_39 : decode cX6_record 39 = .ok (.iconst 0, 1) := by decide +kernel
theorem dX6_record_40 : decode cX6_record 40 = .ok (.putfield 52, 3) := by decide +kernel
theorem dX6_record_43 : decode cX6_record 43 = .ok (.return_, 1) := by decide +kernel
theorem dX6_dropOldest_0 : decode cX6_dropOldest 0 = .ok (.aload_n 0, 1) := by decide +kernel
theorem dX6_dropOldest_1 : decode cX6_dropOldest 1 = .ok (.getfield 16, 3) := by decide +kernel
theorem dX6_dropOldest_4 : decode cX6_dropOldest 4 = .ok (.iconst 0, 1) := by decide +kernel
theorem dX6_dropOldest_5 : decode cX6_dropOldest 5 = .ok (.aaload, 1) := by decide +kernel
theorem dX6_dropOldest_6 : decode cX6_dropOldest 6 = .ok (.astore_n 1, 1) := by decide +kernel
theorem dX6_dropOldest_7 : decode cX6_dropOldest 7 = .ok (.iconst 1, 1) := by decide +kernel
theorem dX6_dropOldest_8 : decode cX6_dropOldest 8 = .ok (.istore_n 2, 1) := by decide +kernel
theorem dX6_dropOldest_9 : decode cX6_dropOldest 9 = .ok (.iload_n 2, 1) := by decide +kernel
theorem dX6_dropOldest_10 : decode cX6_dropOldest 10 = .ok (.iconst 5, 1) := by decide +kernel
theorem dX6_dropOldest_11 : decode cX6_dropOldest 11 = .ok (.if_icmp .ge 23, 3) := by decide +kernel
theorem dX6_dropOldest_14 : decode cX6_dropOldest 14 = .ok (.aload_n 0, 1) := by decide +kernel
theorem dX6_dropOldest_15 : decode cX6_dropOldest 15 = .ok (.getfield 16, 3) := by decide +kernel
theorem dX6_dropOldest_18 : decode cX6_dropOldest 18 = .ok (.iload_n 2, 1) := by decide +kernel
theorem dX6_dropOldest_19 : decode cX6_dropOldest 19 = .ok (.iconst 1, 1) := by decide +kernel
theorem dX6_dropOldest_20 : decode cX6_dropOldest 20 = .ok (.isub, 1) := by decide +kernel
theorem dX6_dropOldest_21 : decode cX6_dropOldest 21 = .ok (.aload_n 0, 1) := by decide +kernel
theorem dX6_dropOldest_22 : decode cX6_dropOldest 22 = .ok (.getfield 16, 3) := by decide +kernel
theorem dX6_dropOldest_25 : decode cX6_dropOldest 25 = .ok (.iload_n 2, 1) := by decide +kernel
theorem dX6_dropOldest_26 : decode cX6_dropOldest 26 = .ok (.aaload, 1) := by decide +kernel
theorem dX6_dropOldest_27 : decode cX6_dropOldest 27 = .ok (.aastore, 1) := by decide +kernel
theorem dX6_dropOldest_28 : decode cX6_dropOldest 28 = .ok (.iinc 2 1, 3) := by decide +kernel
theorem dX6_dropOldest_31 : decode cX6_dropOldest 31 = .ok (.goto (-22), 3) := by decide +kernel
theorem dX6_dropOldest_34 : decode cX6_dropOldest 34 = .ok (.aload_n 0, 1) := by decide +kernel
theorem dX6_dropOldest_35 : decode cX6_dropOldest 35 = .ok (.getfield 16, 3) := by decide +kernel
theorem dX6_dropOldest_38 : decode cX6_dropOldest 38 = .ok (.iconst 4, 1) := by decide +kernel
theorem dX6_dropOldest_39 : decode cX6_dropOldest 39 = .ok (.aload_n 1, 1) := by decide +kernel
theorem dX6_dropOldest_40 : decode cX6_dropOldest 40 = .ok (.aastore, 1) := by decide +kernel
theorem dX6_dropOldest_41 : decode cX6_dropOldest 41 = .ok (.aload_n 0, 1) := by decide +kernel
theorem dX6_dropOldest_42 : decode cX6_dropOldest 42 = .ok (.iconst 4, 1) := by decide +kernel
theorem dX6_dropOldest_43 : decode cX6_dropOldest 43 = .ok (.putfield 20, 3) := by decide +kernel
theorem dX6_dropOldest_46 : decode cX6_dropOldest 46 = .ok (.return_, 1) := by decide +kernel
set_option maxRecDepth 20000 in
theorem ggX6_searchOnce_X1_search : GoodIn wsX6_searchOnce wsX1_search := goodIn_r _ [8, 9, 10, 11, 12, 13, 7, 14, 15, 16, 17, 18, 19, 20, 21, 22, 23, 24, 25, 26, 27, 28, 29, 30, 31, 32, 33, 34, 35, 36, 37, 38, 39, 40, 41, 42, 43, 44, 45, 46, 47, 48, 49, 50, 51, 52, 53, 54, 55, 56, 57, 58, 59, 60, 61, 62, 63, 64, 65, 66, 67, 68, 69, 70, 71, 72, 73, 74, 75, 76, 77, 78, 79, 80, 81, 82, 83, 84, 85, 86, 87, 88, 89, 98, 99, 100, 101, 102, 103, 104, 105, 106, 107, 108, 109, 110, 111, 112, 113, 114, 115, 116, 117] (by decide +kernel) (by decide +kernel)
set_option maxRecDepth 20000 in
theorem gX6_searchOnce_X1_search : GoodIn wsX6_searchOnce (wsV RX6 215 RX1 yX1_search wsX1_search) := goodIn_app (goodIn_of _ (by decide +kernel)) ggX6_searchOnce_X1_search
theorem dX6_searchOnce_0 : decode cX6_searchOnce 0 = .ok (.aload_n 0, 1) := by decide +kernel
theorem dX6_searchOnce_1 : decode cX6_searchOnce 1 = .ok (.getfield 52, 3) := by decide +kernel
theorem dX6_searchOnce_4 : decode cX6_searchOnce 4 = .ok (.ifCond .ne 19, 3) := by decide +kernel
theorem dX6_searchOnce_7 : decode cX6_searchOnce 7 = .ok (.aload_n 0, 1) := by decide +kernel
theorem dX6_searchOnce_8 : decode cX6_searchOnce 8 = .ok (.getfield 48, 3) := by decide +kernel
theorem dX6_searchOnce_11 : decode cX6_searchOnce 11 = .ok (.aload_n 0, 1) := by decide +kernel
theorem dX6_searchOnce_12 : decode cX6_searchOnce 12 = .ok (.getfield 10, 3) := by decide +kernel
theorem dX6_searchOnce_15 : decode cX6_searchOnce 15 = .ok (.invokevirtual 215, 3) := by decide +kernel
theorem dX6_searchOnce_18 : decode cX6_searchOnce 18 = .ok (.aload_n 0, 1) := by decide +kernel
theorem dX6_searchOnce_19 : decode cX6_searchOnce 19 = .ok (.iconst 1, 1) := by decide +kernel
theorem dX6_searchOnce_20 : decode cX6_searchOnce 20 = .ok (.putfield 52, 3) := by decide +kernel
theorem dX6_searchOnce_23 : decode cX6_searchOnce 23 = .ok (.return_, 1) := by decide +kernel
theorem dX6_isSpan_0 : decode cX6_isSpan 0 = .ok (.iload_n 0, 1) := by decide +kernel
theorem dX6_isSpan_1 : decode cX6_isSpan 1 = .ok (.ifCond .lt 18, 3) := by decide +kernel
theorem dX6_isSpan_4 : decode cX6_isSpan 4 = .ok (.iload_n 0, 1) := by decide +kernel
theorem dX6_isSpan_5 : decode cX6_isSpan 5 = .ok (.iload_n 1, 1) := by decide +kernel
theorem dX6_isSpan_6 : decode cX6_isSpan 6 = .ok (.if_icmp .gt 13, 3) := by decide +kernel
theorem dX6_isSpan_9 : decode cX6_isSpan 9 = .ok (.iload_n 1, 1) := by decide +kernel
theorem dX6_isSpan_10 : decode cX6_isSpan 10 = .ok (.bipush 24, 2) := by decide +kernel
theorem dX6_isSpan_12 : decode cX6_isSpan 12 = .ok (.if_icmp .ge 7, 3) := by decide +kernel
theorem dX6_isSpan_15 : decode cX6_isSpan 15 = .ok (.iconst 1, 1) := by decide +kernel
theorem dX6_isSpan_16 : decode cX6_isSpan 16 = .ok (.goto 4, 3) := by decide +kernel
theorem dX6_isSpan_19 : decode cX6_isSpan 19 = .ok (.iconst 0, 1) := by decide +kernel
theorem dX6_isSpan_20 : decode cX6_isSpan 20 = .ok (.ireturn, 1) := by decide +kernel
set_option maxRecDepth 20000 in
theorem ggX6_isPair_X0_isGuest : GoodIn wsX6_isPair wsX0_isGuest := goodIn_r _ [6, 7, 16, 17, 18] (by decide +kernel) (by decide +kernel)
set_option maxRecDepth 20000 in
theorem gX6_isPair_X0_isGuest : GoodIn wsX6_isPair (wsV RX6 66 RX0 yX0_isGuest wsX0_isGuest) := goodIn_app (goodIn_of _ (by decide +kernel)) ggX6_isPair_X0_isGuest
theorem dX6_isPair_0 : decode cX6_isPair 0 = .ok (.aload_n 0, 1) := by decide +kernel
theorem dX6_isPair_1 : decode cX6_isPair 1 = .ok (.getfield 10, 3) := by decide +kernel
theorem dX6_isPair_4 : decode cX6_isPair 4 = .ok (.iload_n 1, 1) := by decide +kernel
theorem dX6_isPair_5 : decode cX6_isPair 5 = .ok (.invokevirtual 66, 3) := by decide +kernel
theorem dX6_isPair_8 : decode cX6_isPair 8 = .ok (.ifCond .eq 23, 3) := by decide +kernel
theorem dX6_isPair_11 : decode cX6_isPair 11 = .ok (.aload_n 0, 1) := by decide +kernel
theorem dX6_isPair_12 : decode cX6_isPair 12 = .ok (.getfield 10, 3) := by decide +kernel
theorem dX6_isPair_15 : decode cX6_isPair 15 = .ok (.iload_n 2, 1) := by decide +kernel
theorem dX6_isPair_16 : decode cX6_isPair 16 = .ok (.invokevirtual 66, 3) := by decide +kernel
theorem dX6_isPair_19 : decode cX6_isPair 19 = .ok (.ifCond .eq 12, 3) := by decide +kernel
theorem dX6_isPair_22 : decode cX6_isPair 22 = .ok (.iload_n 1, 1) := by decide +kernel
theorem dX6_isPair_23 : decode cX6_isPair 23 = .ok (.iload_n 2, 1) := by decide +kernel
theorem dX6_isPair_24 : decode cX6_isPair 24 = .ok (.if_icmp .eq 7, 3) := by decide +kernel
theorem dX6_isPair_27 : decode cX6_isPair 27 = .ok (.iconst 1, 1) := by decide +kernel
theorem dX6_isPair_28 : decode cX6_isPair 28 = .ok (.goto 4, 3) := by decide +kernel
theorem dX6_isPair_31 : decode cX6_isPair 31 = .ok (.iconst 0, 1) := by decide +kernel
theorem dX6_isPair_32 : decode cX6_isPair 32 = .ok (.ireturn, 1) := by decide +kernel
theorem dX6_isMove_0 : decode cX6_isMove 0 = .ok (.iload_n 1, 1) := by decide +kernel
theorem dX6_isMove_1 : decode cX6_isMove 1 = .ok (.iconst 1, 1) := by decide +kernel
theorem dX6_isMove_2 : decode cX6_isMove 2 = .ok (.if_icmp .lt 31, 3) := by decide +kernel
theorem dX6_isMove_5 : decode cX6_isMove 5 = .ok (.iload_n 1, 1) := by decide +kernel
theorem dX6_isMove_6 : decode cX6_isMove 6 = .ok (.bipush 100, 2) := by decide +kernel
theorem dX6_isMove_8 : decode cX6_isMove 8 = .ok (.if_icmp .gt 25, 3) := by decide +kernel
theorem dX6_isMove_11 : decode cX6_isMove 11 = .ok (.iload_n 2, 1) := by decide +kernel
theorem dX6_isMove_12 : decode cX6_isMove 12 = .ok (.iconst 1, 1) := by decide +kernel
theorem dX6_isMove_13 : decode cX6_isMove 13 = .ok (.if_icmp .lt 20, 3) := by decide +kernel
theorem dX6_isMove_16 : decode cX6_isMove 16 = .ok (.iload_n 2, 1) := by decide +kernel
theorem dX6_isMove_17 : decode cX6_isMove 17 = .ok (.iconst 1, 1) := by decide +kernel
theorem dX6_isMove_18 : decode cX6_isMove 18 = .ok (.aload_n 0, 1) := by decide +kernel
theorem dX6_isMove_19 : decode cX6_isMove 19 = .ok (.getfield 10, 3) := by decide +kernel
theorem dX6_isMove_22 : decode cX6_isMove 22 = .ok (.getfield 56, 3) := by decide +kernel
theorem dX6_isMove_25 : decode cX6_isMove 25 = .ok (.ishl, 1) := by decide +kernel
theorem dX6_isMove_26 : decode cX6_isMove 26 = .ok (.if_icmp .ge 7, 3) := by decide +kernel
theorem dX6_isMove_29 : decode cX6_isMove 29 = .ok (.iconst 1, 1) := by decide +kernel
theorem dX6_isMove_30 : decode cX6_isMove 30 = .ok (.goto 4, 3) := by decide +kernel
theorem dX6_isMove_33 : decode cX6_isMove 33 = .ok (.iconst 0, 1) := by decide +kernel
theorem dX6_isMove_34 : decode cX6_isMove 34 = .ok (.ireturn, 1) := by decide +kernel
set_option maxRecDepth 20000 in
theorem ggX6_lowestNumerator_X6_commonDivisor : GoodIn wsX6_lowestNumerator wsX6_commonDivisor := goodIn_r _ [4, 5] (by decide +kernel) (by decide +kernel)
set_option maxRecDepth 20000 in
theorem gX6_lowestNumerator_X6_commonDivisor : GoodIn wsX6_lowestNumerator (va_wsS RX6 218 yX6_commonDivisor wsX6_commonDivisor) := goodIn_app (goodIn_of _ (by decide +kernel)) ggX6_lowestNumerator_X6_commonDivisor
theorem dX6_lowestNumerator_0 : decode cX6_lowestNumerator 0 = .ok (.iload_n 0, 1) := by decide +kernel
theorem dX6_lowestNumerator_1 : decode cX6_lowestNumerator 1 = .ok (.iload_n 1, 1) := by decide +kernel
theorem dX6_lowestNumerator_2 : decode cX6_lowestNumerator 2 = .ok (.invokestatic 218, 3) := by decide +kernel
theorem dX6_lowestNumerator_5 : decode cX6_lowestNumerator 5 = .ok (.istore_n 2, 1) := by decide +kernel
theorem dX6_lowestNumerator_6 : decode cX6_lowestNumerator 6 = .ok (.iload_n 1, 1) := by decide +kernel
theorem dX6_lowestNumerator_7 : decode cX6_lowestNumerator 7 = .ok (.ifCond .eq 7, 3) := by decide +kernel
theorem dX6_lowestNumerator_10 : decode cX6_lowestNumerator 10 = .ok (.iload_n 2, 1) := by decide +kernel
theorem dX6_lowestNumerator_11 : decode cX6_lowestNumerator 11 = .ok (.ifCond .ne 7, 3) := by decide +kernel
theorem dX6_lowestNumerator_14 : decode cX6_lowestNumerator 14 = .ok (.iconst 0, 1) := by decide +kernel
theorem dX6_lowestNumerator_15 : decode cX6_lowestNumerator 15 = .ok (.goto 6, 3) := by decide +kernel
theorem dX6_lowestNumerator_18 : decode cX6_lowestNumerator 18 = .ok (.iload_n 0, 1) := by decide +kernel
theorem dX6_lowestNumerator_19 : decode cX6_lowestNumerator 19 = .ok (.iload_n 2, 1) := by decide +kernel
theorem dX6_lowestNumerator_20 : decode cX6_lowestNumerator 20 = .ok (.idiv, 1) := by decide +kernel
theorem dX6_lowestNumerator_21 : decode cX6_lowestNumerator 21 = .ok (.ireturn, 1) := by decide +kernel
set_option maxRecDepth 20000 in
theorem ggX6_lowestDenominator_X6_commonDivisor : GoodIn wsX6_lowestDenominator wsX6_commonDivisor := goodIn_r _ [4, 5] (by decide +kernel) (by decide +kernel)
set_option maxRecDepth 20000 in
theorem gX6_lowestDenominator_X6_commonDivisor : GoodIn wsX6_lowestDenominator (va_wsS RX6 218 yX6_commonDivisor wsX6_commonDivisor) := goodIn_app (goodIn_of _ (by decide +kernel)) ggX6_lowestDenominator_X6_commonDivisor
theorem dX6_lowestDenominator_0 : decode cX6_lowestDenominator 0 = .ok (.iload_n 0, 1) := by decide +kernel
theorem dX6_lowestDenominator_1 : decode cX6_lowestDenominator 1 = .ok (.iload_n 1, 1) := by decide +kernel
theorem dX6_lowestDenominator_2 : decode cX6_lowestDenominator 2 = .ok (.invokestatic 218, 3) := by decide +kernel
theorem dX6_lowestDenominator_5 : decode cX6_lowestDenominator 5 = .ok (.istore_n 2, 1) := by decide +kernel
theorem dX6_lowestDenominator_6 : decode cX6_lowestDenominator 6 = .ok (.iload_n 1, 1) := by decide +kernel
theorem dX6_lowestDenominator_7 : decode cX6_lowestDenominator 7 = .ok (.ifCond .eq 7, 3) := by decide +kernel
theorem dX6_lowestDenominator_10 : decode cX6_lowestDenominator 10 = .ok (.iload_n 2, 1) := by decide +kernel
theorem dX6_lowestDenominator_11 : decode cX6_lowestDenominator 11 = .ok (.ifCond .ne 7, 3) := by decide +kernel
theorem dX6_lowestDenominator_14 : decode cX6_lowestDenominator 14 = .ok (.iconst 1, 1) := by decide +kernel
theorem dX6_lowestDenominator_15 : decode cX6_lowestDenominator 15 = .ok (.goto 6, 3) := by decide +kernel
theorem dX6_lowestDenominator_18 : decode cX6_lowestDenominator 18 = .ok (.iload_n 1, 1) := by decide +kernel
theorem dX6_lowestDenominator_19 : decode cX6_lowestDenominator 19 = .ok (.iload_n 2, 1) := by decide +kernel
theorem dX6_lowestDenominator_20 : decode cX6_lowestDenominator 20 = .ok (.idiv, 1) := by decide +kernel
theorem dX6_lowestDenominator_21 : decode cX6_lowestDenominator 21 = .ok (.ireturn, 1) := by decide +kernel
theorem dX6_commonDivisor_0 : decode cX6_commonDivisor 0 = .ok (.iload_n 0, 1) := by decide +kernel
theorem dX6_commonDivisor_1 : decode cX6_commonDivisor 1 = .ok (.istore_n 2, 1) := by decide +kernel
theorem dX6_commonDivisor_2 : decode cX6_commonDivisor 2 = .ok (.iload_n 1, 1) := by decide +kernel
theorem dX6_commonDivisor_3 : decode cX6_commonDivisor 3 = .ok (.istore_n 3, 1) := by decide +kernel
theorem dX6_commonDivisor_4 : decode cX6_commonDivisor 4 = .ok (.iconst 0, 1) := by decide +kernel
theorem dX6_commonDivisor_5 : decode cX6_commonDivisor 5 = .ok (.istore 4, 2) := by decide +kernel
theorem dX6_commonDivisor_7 : decode cX6_commonDivisor 7 = .ok (.iload_n 3, 1) := by decide +kernel
theorem dX6_commonDivisor_8 : decode cX6_commonDivisor 8 = .ok (.ifCond .eq 26, 3) := by decide +kernel
theorem dX6_commonDivisor_11 : decode cX6_commonDivisor 11 = .ok (.iload 4, 2) := by decide +kernel
theorem dX6_commonDivisor_13 : decode cX6_commonDivisor 13 = .ok (.ldc 221, 2) := by decide +kernel
theorem dX6_commonDivisor_15 : decode cX6_commonDivisor 15 = .ok (.if_icmp .ge 19, 3) := by decide +kernel
theorem dX6_commonDivisor_18 : decode cX6_commonDivisor 18 = .ok (.iload_n 2, 1) := by decide +kernel
theorem dX6_commonDivisor_19 : decode cX6_commonDivisor 19 = .ok (.iload_n 3, 1) := by decide +kernel
theorem dX6_commonDivisor_20 : decode cX6_commonDivisor 20 = .ok (.irem, 1) := by decide +kernel
theorem dX6_commonDivisor_21 : decode cX6_commonDivisor 21 = .ok (.istore 5, 2) := by decide +kernel
theorem dX6_commonDivisor_23 : decode cX6_commonDivisor 23 = .ok (.iload_n 3, 1) := by decide +kernel
theorem dX6_commonDivisor_24 : decode cX6_commonDivisor 24 = .ok (.istore_n 2, 1) := by decide +kernel
theorem dX6_commonDivisor_25 : decode cX6_commonDivisor 25 = .ok (.iload 5, 2) := by decide +kernel
theorem dX6_commonDivisor_27 : decode cX6_commonDivisor 27 = .ok (.istore_n 3, 1) := by decide +kernel
theorem dX6_commonDivisor_28 : decode cX6_commonDivisor 28 = .ok (.iinc 4 1, 3) := by decide +kernel
theorem dX6_commonDivisor_31 : decode cX6_commonDivisor 31 = .ok (.goto (-24), 3) := by decide +kernel
theorem dX6_commonDivisor_34 : decode cX6_commonDivisor 34 = .ok (.iload_n 2, 1) := by decide +kernel
theorem dX6_commonDivisor_35 : decode cX6_commonDivisor 35 = .ok (.ireturn, 1) := by decide +kernel
theorem dX7_init_0 : decode cX7_init 0 = .ok (.aload_n 0, 1) := by decide +kernel
theorem dX7_init_1 : decode cX7_init 1 = .ok (.invokespecial 1, 3) := by decide +kernel
theorem dX7_init_4 : decode cX7_init 4 = .ok (.aload_n 0, 1) := by decide +kernel
theorem dX7_init_5 : decode cX7_init 5 = .ok (.sipush 847, 3) := by decide +kernel
theorem dX7_init_8 : decode cX7_init 8 = .ok (.newarray .int, 2) := by decide +kernel
theorem dX7_init_10 : decode cX7_init 10 = .ok (.putfield 7, 3) := by decide +kernel
theorem dX7_init_13 : decode cX7_init 13 = .ok (.aload_n 0, 1) := by decide +kernel
theorem dX7_init_14 : decode cX7_init 14 = .ok (.bipush 60, 2) := by decide +kernel
theorem dX7_init_16 : decode cX7_init 16 = .ok (.newarray .int, 2) := by decide +kernel
theorem dX7_init_18 : decode cX7_init 18 = .ok (.putfield 13, 3) := by decide +kernel
theorem dX7_init_21 : decode cX7_init 21 = .ok (.aload_n 0, 1) := by decide +kernel
theorem dX7_init_22 : decode cX7_init 22 = .ok (.bipush 24, 2) := by decide +kernel
theorem dX7_init_24 : decode cX7_init 24 = .ok (.newarray .int, 2) := by decide +kernel
theorem dX7_init_26 : decode cX7_init 26 = .ok (.putfield 16, 3) := by decide +kernel
theorem dX7_init_29 : decode cX7_init 29 = .ok (.aload_n 0, 1) := by decide +kernel
theorem dX7_init_30 : decode cX7_init 30 = .ok (.iconst 4, 1) := by decide +kernel
theorem dX7_init_31 : decode cX7_init 31 = .ok (.newarray .int, 2) := by decide +kernel
theorem dX7_init_33 : decode cX7_init 33 = .ok (.putfield 19, 3) := by decide +kernel
theorem dX7_init_36 : decode cX7_init 36 = .ok (.aload_n 0, 1) := by decide +kernel
theorem dX7_init_37 : decode cX7_init 37 = .ok (.iconst 5, 1) := by decide +kernel
theorem dX7_init_38 : decode cX7_init 38 = .ok (.newarray .int, 2) := by decide +kernel
theorem dX7_init_40 : decode cX7_init 40 = .ok (.putfield 22, 3) := by decide +kernel
theorem dX7_init_43 : decode cX7_init 43 = .ok (.aload_n 0, 1) := by decide +kernel
theorem dX7_init_44 : decode cX7_init 44 = .ok (.iconst 4, 1) := by decide +kernel
theorem dX7_init_45 : decode cX7_init 45 = .ok (.newarray .int, 2) := by decide +kernel
theorem dX7_init_47 : decode cX7_init 47 = .ok (.putfield 25, 3) := by decide +kernel
theorem dX7_init_50 : decode cX7_init 50 = .ok (.aload_n 0, 1) := by decide +kernel
theorem dX7_init_51 : decode cX7_init 51 = .ok (.iconst 5, 1) := by decide +kernel
theorem dX7_init_52 : decode cX7_init 52 = .ok (.newarray .int, 2) := by decide +kernel
theorem dX7_init_54 : decode cX7_init 54 = .ok (.putfield 28, 3) := by decide +kernel
theorem dX7_init_57 : decode cX7_init 57 = .ok (.iconst 0, 1) := by decide +kernel
theorem dX7_init_58 : decode cX7_init 58 = .ok (.istore_n 1, 1) := by decide +kernel
theorem dX7_init_59 : decode cX7_init 59 = .ok (.iload_n 1, 1) := by decide +kernel
theorem dX7_init_60 : decode cX7_init 60 = .ok (.bipush 24, 2) := by decide +kernel
theorem dX7_init_62 : decode cX7_init 62 = .ok (.if_icmp .ge 19, 3) := by decide +kernel
theorem dX7_init_65 : decode cX7_init 65 = .ok (.aload_n 0, 1) := by decide +kernel
theorem dX7_init_66 : decode cX7_init 66 = .ok (.getfield 7, 3) := by decide +kernel
theorem dX7_init_69 : decode cX7_init 69 = .ok (.iconst 1, 1) := by decide +kernel
theorem dX7_init_70 : decode cX7_init 70 = .ok (.iload_n 1, 1) := by decide +kernel
theorem dX7_init_71 : decode cX7_init 71 = .ok (.iadd, 1) := by decide +kernel
theorem dX7_init_72 : decode cX7_init 72 = .ok (.bipush (-9), 2) := by decide +kernel
theorem dX7_init_74 : decode cX7_init 74 = .ok (.iastore, 1) := by decide +kernel
theorem dX7_init_75 : decode cX7_init 75 = .ok (.iinc 1 1, 3) := by decide +kernel
theorem dX7_init_78 : decode cX7_init 78 = .ok (.goto (-19), 3) := by decide +kernel
theorem dX7_init_81 : decode cX7_init 81 = .ok (.return_, 1) := by decide +kernel
theorem dX7_in_0 : decode cX7_in 0 = .ok (.iload_n 0, 1) := by decide +kernel
theorem dX7_in_1 : decode cX7_in 1 = .ok (.iload_n 1, 1) := by decide +kernel
theorem dX7_in_2 : decode cX7_in 2 = .ok (.if_icmp .lt 12, 3) := by decide +kernel
theorem dX7_in_5 : decode cX7_in 5 = .ok (.iload_n 0, 1) := by decide +kernel
theorem dX7_in_6 : decode cX7_in 6 = .ok (.iload_n 2, 1) := by decide +kernel
theorem dX7_in_7 : decode cX7_in 7 = .ok (.if_icmp .gt 7, 3) := by decide +kernel
theorem dX7_in_10 : decode cX7_in 10 = .ok (.iconst 1, 1) := by decide +kernel
theorem dX7_in_11 : decode cX7_in 11 = .ok (.goto 4, 3) := by decide +kernel
theorem dX7_in_14 : decode cX7_in 14 = .ok (.iconst 0, 1) := by decide +kernel
theorem dX7_in_15 : decode cX7_in 15 = .ok (.ireturn, 1) := by decide +kernel
theorem dX7_copies_0 : decode cX7_copies 0 = .ok (.iconst 0, 1) := by decide +kernel
theorem dX7_copies_1 : decode cX7_copies 1 = .ok (.istore_n 3, 1) := by decide +kernel
theorem dX7_copies_2 : decode cX7_copies 2 = .ok (.iload_n 3, 1) := by decide +kernel
theorem dX7_copies_3 : decode cX7_copies 3 = .ok (.bipush 121, 2) := by decide +kernel
theorem dX7_copies_5 : decode cX7_copies 5 = .ok (.if_icmp .ge 25, 3) := by decide +kernel
theorem dX7_copies_8 : decode cX7_copies 8 = .ok (.aload_n 0, 1) := by decide +kernel
theorem dX7_copies_9 : decode cX7_copies 9 = .ok (.getfield 7, 3) := by decide +kernel
theorem dX7_copies_12 : decode cX7_copies 12 = .ok (.iload_n 2, 1) := by decide +kernel
theorem dX7_copies_13 : decode cX7_copies 13 = .ok (.iload_n 3, 1) := by decide +kernel
theorem dX7_copies_14 : decode cX7_copies 14 = .ok (.iadd, 1) := by decide +kernel
theorem dX7_copies_15 : decode cX7_copies 15 = .ok (.aload_n 0, 1) := by decide +kernel
theorem dX7_copies_16 : decode cX7_copies 16 = .ok (.getfield 7, 3) := by decide +kernel
theorem dX7_copies_19 : decode cX7_copies 19 = .ok (.iload_n 1, 1) := by decide +kernel
theorem dX7_copies_20 : decode cX7_copies 20 = .ok (.iload_n 3, 1) := by decide +kernel
theorem dX7_copies_21 : decode cX7_copies 21 = .ok (.iadd, 1) := by decide +kernel
theorem dX7_copies_22 : decode cX7_copies 22 = .ok (.iaload, 1) := by decide +kernel
theorem dX7_copies_23 : decode cX7_copies 23 = .ok (.iastore, 1) := by decide +kernel
theorem dX7_copies_24 : decode cX7_copies 24 = .ok (.iinc 3 1, 3) := by decide +kernel
theorem dX7_copies_27 : decode cX7_copies 27 = .ok (.goto (-25), 3) := by decide +kernel
theorem dX7_copies_30 : decode cX7_copies 30 = .ok (.return_, 1) := by decide +kernel
set_option maxRecDepth 20000 in
theorem ggX7_records_X7_copies : GoodIn wsX7_records wsX7_copies := goodIn_r _ [6, 7, 8, 9, 10, 11, 12, 13, 14, 15, 16, 17, 18, 19, 20, 21, 22, 23] (by decide +kernel) (by decide +kernel)
set_option maxRecDepth 20000 in
theorem gX7_records_X7_copies : GoodIn wsX7_records (wsV RX7 35 RX7 yX7_copies wsX7_copies) := goodIn_app (goodIn_of _ (by decide +kernel)) ggX7_records_X7_copies
theorem dX7_records_0 : decode cX7_records 0 = .ok (.aload_n 0, 1) := by decide +kernel
theorem dX7_records_1 : decode cX7_records 1 = .ok (.getfield 31, 3) := by decide +kernel
theorem dX7_records_4 : decode cX7_records 4 = .ok (.iconst 5, 1) := by decide +kernel
theorem dX7_records_5 : decode cX7_records 5 = .ok (.if_icmp .ne 40, 3) := by decide +kernel
theorem dX7_records_8 : decode cX7_records 8 = .ok (.iconst 1, 1) := by decide +kernel
theorem dX7_records_9 : decode cX7_records 9 = .ok (.istore_n 1, 1) := by decide +kernel
theorem dX7_records_10 : decode cX7_records 10 = .ok (.iload_n 1, 1) := by decide +kernel
theorem dX7_records_11 : decode cX7_records 11 = .ok (.iconst 5, 1) := by decide +kernel
theorem dX7_records_12 : decode cX7_records 12 = .ok (.if_icmp .ge 23, 3) := by decide +kernel
theorem dX7_records_15 : decode cX7_records 15 = .ok (.aload_n 0, 1) := by decide +kernel
theorem dX7_records_16 : decode cX7_records 16 = .ok (.bipush 121, 2) := by decide +kernel
theorem dX7_records_18 : decode cX7_records 18 = .ok (.iload_n 1, 1) := by decide +kernel
theorem dX7_records_19 : decode cX7_records 19 = .ok (.iconst 1, 1) := by decide +kernel
theorem dX7_records_20 : decode cX7_records 20 = .ok (.iadd, 1) := by decide +kernel
theorem dX7_records_21 : decode cX7_records 21 = .ok (.imul, 1) := by decide +kernel
theorem dX7_records_22 : decode cX7_records 22 = .ok (.bipush 121, 2) := by decide +kernel
theorem dX7_records_24 : decode cX7_records 24 = .ok (.iload_n 1, 1) := by decide +kernel
theorem dX7_records_25 : decode cX7_records 25 = .ok (.imul, 1) := by decide +kernel
theorem dX7_records_26 : decode cX7_records 26 = .ok (.invokevirtual 35, 3) := by decide +kernel
theorem dX7_records_29 : decode cX7_records 29 = .ok (.iinc 1 1, 3) := by decide +kernel
theorem dX7_records_32 : decode cX7_records 32 = .ok (.goto (-22), 3) := by decide +kernel
theorem dX7_records_35 : decode cX7_records 35 = .ok (.aload_n 0, 1) := by decide +kernel
theorem dX7_records_36 : decode cX7_records 36 = .ok (.dup, 1) := by decide +kernel
theorem dX7_records_37 : decode cX7_records 37 = .ok (.getfield 31, 3) := by decide +kernel
theorem dX7_records_40 : decode cX7_records 40 = .ok (.iconst 1, 1) := by decide +kernel
theorem dX7_records_41 : decode cX7_records 41 = .ok (.isub, 1) := by decide +kernel
theorem dX7_records_42 : decode cX7_records 42 = .ok (.putfield 31, 3) := by decide +kernel
theorem dX7_records_45 : decode cX7_records 45 = .ok (.aload_n 0, 1) := by decide +kernel
theorem dX7_records_46 : decode cX7_records 46 = .ok (.dup, 1) := by decide +kernel
theorem dX7_records_47 : decode cX7_records 47 = .ok (.getfield 31, 3) := by decide +kernel
theorem dX7_records_50 : decode cX7_records 50 = .ok (.iconst 1, 1) := by decide +kernel
theorem dX7_records_51 : decode cX7_records 51 = .ok (.iadd, 1) := by decide +kernel
theorem dX7_records_52 : decode cX7_records 52 = .ok (.putfield 31, 3) := by decide +kernel
theorem dX7_records_55 : decode cX7_records 55 = .ok (.aload_n 0, 1) := by decide +kernel
theorem dX7_records_56 : decode cX7_records 56 = .ok (.iconst 0, 1) := by decide +kernel
theorem dX7_records_57 : decode cX7_records 57 = .ok (.bipush 121, 2) := by decide +kernel
theorem dX7_records_59 : decode cX7_records 59 = .ok (.aload_n 0, 1) := by decide +kernel
theorem dX7_records_60 : decode cX7_records 60 = .ok (.getfield 31, 3) := by decide +kernel
theorem dX7_records_63 : decode cX7_records 63 = .ok (.imul, 1) := by decide +kernel
theorem dX7_records_64 : decode cX7_records 64 = .ok (.invokevirtual 35, 3) := by decide +kernel
theorem dX7_records_67 : decode cX7_records 67 = .ok (.return_, 1) := by decide +kernel
set_option maxRecDepth 20000 in
theorem ggX7_isGuest_X7_in : GoodIn wsX7_isGuest wsX7_in := goodIn_r _ [5] (by decide +kernel) (by decide +kernel)
set_option maxRecDepth 20000 in
theorem gX7_isGuest_X7_in : GoodIn wsX7_isGuest (va_wsS RX7 39 yX7_in wsX7_in) := goodIn_app (goodIn_of _ (by decide +kernel)) ggX7_isGuest_X7_in
theorem dX7_isGuest_0 : decode cX7_isGuest 0 = .ok (.iload_n 1, 1) := by decide +kernel
theorem dX7_isGuest_1 : decode cX7_isGuest 1 = .ok (.iconst 0, 1) := by decide +kernel
theorem dX7_isGuest_2 : decode cX7_isGuest 2 = .ok (.aload_n 0, 1) := by decide +kernel
theorem dX7_isGuest_3 : decode cX7_isGuest 3 = .ok (.getfield 7, 3) := by decide +kernel
theorem dX7_isGuest_6 : decode cX7_isGuest 6 = .ok (.iconst 0, 1) := by decide +kernel
theorem dX7_isGuest_7 : decode cX7_isGuest 7 = .ok (.iaload, 1) := by decide +kernel
theorem dX7_isGuest_8 : decode cX7_isGuest 8 = .ok (.iconst 1, 1) := by decide +kernel
theorem dX7_isGuest_9 : decode cX7_isGuest 9 = .ok (.isub, 1) := by decide +kernel
theorem dX7_isGuest_10 : decode cX7_isGuest 10 = .ok (.invokestatic 39, 3) := by decide +kernel
theorem dX7_isGuest_13 : decode cX7_isGuest 13 = .ok (.ireturn, 1) := by decide +kernel
set_option maxRecDepth 20000 in
theorem ggX7_areGuests_X7_isGuest : GoodIn wsX7_areGuests wsX7_isGuest := goodIn_r _ [5, 6, 7, 8, 4, 9, 10, 11, 12, 13, 14, 15, 16, 17, 18, 19, 20, 21, 22, 23, 24, 25] (by decide +kernel) (by decide +kernel)
set_option maxRecDepth 20000 in
theorem gX7_areGuests_X7_isGuest : GoodIn wsX7_areGuests (wsV RX7 43 RX7 yX7_isGuest wsX7_isGuest) := goodIn_app (goodIn_of _ (by decide +kernel)) ggX7_areGuests_X7_isGuest
theorem dX7_areGuests_0 : decode cX7_areGuests 0 = .ok (.aload_n 0, 1) := by decide +kernel
theorem dX7_areGuests_1 : decode cX7_areGuests 1 = .ok (.iload_n 1, 1) := by decide +kernel
theorem dX7_areGuests_2 : decode cX7_areGuests 2 = .ok (.invokevirtual 43, 3) := by decide +kernel
theorem dX7_areGuests_5 : decode cX7_areGuests 5 = .ok (.ifCond .eq 20, 3) := by decide +kernel
theorem dX7_areGuests_8 : decode cX7_areGuests 8 = .ok (.aload_n 0, 1) := by decide +kernel
theorem dX7_areGuests_9 : decode cX7_areGuests 9 = .ok (.iload_n 2, 1) := by decide +kernel
theorem dX7_areGuests_10 : decode cX7_areGuests 10 = .ok (.invokevirtual 43, 3) := by decide +kernel
theorem dX7_areGuests_13 : decode cX7_areGuests 13 = .ok (.ifCond .eq 12, 3) := by decide +kernel
theorem dX7_areGuests_16 : decode cX7_areGuests 16 = .ok (.iload_n 1, 1) := by decide +kernel
theorem dX7_areGuests_17 : decode cX7_areGuests 17 = .ok (.iload_n 2, 1) := by decide +kernel
theorem dX7_areGuests_18 : decode cX7_areGuests 18 = .ok (.if_icmp .eq 7, 3) := by decide +kernel
theorem dX7_areGuests_21 : decode cX7_areGuests 21 = .ok (.iconst 1, 1) := by decide +kernel
theorem dX7_areGuests_22 : decode cX7_areGuests 22 = .ok (.goto 4, 3) := by decide +kernel
theorem dX7_areGuests_25 : decode cX7_areGuests 25 = .ok (.iconst 0, 1) := by decide +kernel
theorem dX7_areGuests_26 : decode cX7_areGuests 26 = .ok (.ireturn, 1) := by decide +kernel
set_option maxRecDepth 20000 in
theorem ggX7_isSpan_X7_in : GoodIn wsX7_isSpan wsX7_in := goodIn_r _ [4] (by decide +kernel) (by decide +kernel)
set_option maxRecDepth 20000 in
theorem gX7_isSpan_X7_in : GoodIn wsX7_isSpan (va_wsS RX7 39 yX7_in wsX7_in) := goodIn_app (goodIn_of _ (by decide +kernel)) ggX7_isSpan_X7_in
theorem dX7_isSpan_0 : decode cX7_isSpan 0 = .ok (.iload_n 0, 1) := by decide +kernel
theorem dX7_isSpan_1 : decode cX7_isSpan 1 = .ok (.iconst 0, 1) := by decide +kernel
theorem dX7_isSpan_2 : decode cX7_isSpan 2 = .ok (.bipush 23, 2) := by decide +kernel
theorem dX7_isSpan_4 : decode cX7_isSpan 4 = .ok (.invokestatic 39, 3) := by decide +kernel
theorem dX7_isSpan_7 : decode cX7_isSpan 7 = .ok (.ifCond .eq 17, 3) := by decide +kernel
theorem dX7_isSpan_10 : decode cX7_isSpan 10 = .ok (.iload_n 1, 1) := by decide +kernel
theorem dX7_isSpan_11 : decode cX7_isSpan 11 = .ok (.iload_n 0, 1) := by decide +kernel
theorem dX7_isSpan_12 : decode cX7_isSpan 12 = .ok (.bipush 23, 2) := by decide +kernel
theorem dX7_isSpan_14 : decode cX7_isSpan 14 = .ok (.invokestatic 39, 3) := by decide +kernel
theorem dX7_isSpan_17 : decode cX7_isSpan 17 = .ok (.ifCond .eq 7, 3) := by decide +kernel
theorem dX7_isSpan_20 : decode cX7_isSpan 20 = .ok (.iconst 1, 1) := by decide +kernel
theorem dX7_isSpan_21 : decode cX7_isSpan 21 = .ok (.goto 4, 3) := by decide +kernel
theorem dX7_isSpan_24 : decode cX7_isSpan 24 = .ok (.iconst 0, 1) := by decide +kernel
theorem dX7_isSpan_25 : decode cX7_isSpan 25 = .ok (.ireturn, 1) := by decide +kernel
theorem dX7_valueOf_0 : decode cX7_valueOf 0 = .ok (.aload_n 0, 1) := by decide +kernel
theorem dX7_valueOf_1 : decode cX7_valueOf 1 = .ok (.getfield 7, 3) := by decide +kernel
theorem dX7_valueOf_4 : decode cX7_valueOf 4 = .ok (.bipush 25, 2) := by decide +kernel
theorem dX7_valueOf_6 : decode cX7_valueOf 6 = .ok (.bipush 24, 2) := by decide +kernel
theorem dX7_valueOf_8 : decode cX7_valueOf 8 = .ok (.iload_n 1, 1) := by decide +kernel
theorem dX7_valueOf_9 : decode cX7_valueOf 9 = .ok (.imul, 1) := by decide +kernel
theorem dX7_valueOf_10 : decode cX7_valueOf 10 = .ok (.iadd, 1) := by decide +kernel
theorem dX7_valueOf_11 : decode cX7_valueOf 11 = .ok (.iload_n 2, 1) := by decide +kernel
theorem dX7_valueOf_12 : decode cX7_valueOf 12 = .ok (.iadd, 1) := by decide +kernel
theorem dX7_valueOf_13 : decode cX7_valueOf 13 = .ok (.iaload, 1) := by decide +kernel
theorem dX7_valueOf_14 : decode cX7_valueOf 14 = .ok (.ireturn, 1) := by decide +kernel
set_option maxRecDepth 20000 in
theorem ggX7_spanValue_X7_valueOf : GoodIn wsX7_spanValue wsX7_valueOf := goodIn_r _ [5, 6, 7, 8, 9, 10, 11, 12, 13, 14, 15, 16, 17, 18, 19, 20, 21, 22] (by decide +kernel) (by decide +kernel)
set_option maxRecDepth 20000 in
theorem gX7_spanValue_X7_valueOf : GoodIn wsX7_spanValue (wsV RX7 47 RX7 yX7_valueOf wsX7_valueOf) := goodIn_app (goodIn_of _ (by decide +kernel)) ggX7_spanValue_X7_valueOf
theorem dX7_spanValue_0 : decode cX7_spanValue 0 = .ok (.iconst 0, 1) := by decide +kernel
theorem dX7_spanValue_1 : decode cX7_spanValue 1 = .ok (.istore 4, 2) := by decide +kernel
theorem dX7_spanValue_3 : decode cX7_spanValue 3 = .ok (.iload_n 2, 1) := by decide +kernel
theorem dX7_spanValue_4 : decode cX7_spanValue 4 = .ok (.istore 5, 2) := by decide +kernel
theorem dX7_spanValue_6 : decode cX7_spanValue 6 = .ok (.iload 5, 2) := by decide +kernel
theorem dX7_spanValue_8 : decode cX7_spanValue 8 = .ok (.iload_n 3, 1) := by decide +kernel
theorem dX7_spanValue_9 : decode cX7_spanValue 9 = .ok (.if_icmp .ge 21, 3) := by decide +kernel
theorem dX7_spanValue_12 : decode cX7_spanValue 12 = .ok (.iload 4, 2) := by decide +kernel
theorem dX7_spanValue_14 : decode cX7_spanValue 14 = .ok (.aload_n 0, 1) := by decide +kernel
theorem dX7_spanValue_15 : decode cX7_spanValue 15 = .ok (.iload_n 1, 1) := by decide +kernel
theorem dX7_spanValue_16 : decode cX7_spanValue 16 = .ok (.iload 5, 2) := by decide +kernel
theorem dX7_spanValue_18 : decode cX7_spanValue 18 = .ok (.invokevirtual 47, 3) := by decide +kernel
theorem dX7_spanValue_21 : decode cX7_spanValue 21 = .ok (.iadd, 1) := by decide +kernel
theorem dX7_spanValue_22 : decode cX7_spanValue 22 = .ok (.istore 4, 2) := by decide +kernel
theorem dX7_spanValue_24 : decode cX7_spanValue 24 = .ok (.iinc 5 1, 3) := by decide +kernel
theorem dX7_spanValue_27 : decode cX7_spanValue 27 = .ok (.goto (-21), 3) := by decide +kernel
theorem dX7_spanValue_30 : decode cX7_spanValue 30 = .ok (.iload 4, 2) := by decide +kernel
theorem dX7_spanValue_32 : decode cX7_spanValue 32 = .ok (.ireturn, 1) := by decide +kernel
set_option maxRecDepth 20000 in
theorem ggX7_total_X7_spanValue : GoodIn wsX7_total wsX7_spanValue := goodIn_r _ [5, 6, 7, 8, 4, 9, 10, 11, 12, 13, 14, 15, 16, 17, 18, 19, 20, 21, 22, 23, 24, 25, 26] (by decide +kernel) (by decide +kernel)
set_option maxRecDepth 20000 in
theorem gX7_total_X7_spanValue : GoodIn wsX7_total (wsV RX7 51 RX7 yX7_spanValue wsX7_spanValue) := goodIn_app (goodIn_of _ (by decide +kernel)) ggX7_total_X7_spanValue
theorem dX7_total_0 : decode cX7_total 0 = .ok (.aload_n 0, 1) := by decide +kernel
theorem dX7_total_1 : decode cX7_total 1 = .ok (.iload_n 1, 1) := by decide +kernel
theorem dX7_total_2 : decode cX7_total 2 = .ok (.iconst 0, 1) := by decide +kernel
theorem dX7_total_3 : decode cX7_total 3 = .ok (.bipush 24, 2) := by decide +kernel
theorem dX7_total_5 : decode cX7_total 5 = .ok (.invokevirtual 51, 3) := by decide +kernel
theorem dX7_total_8 : decode cX7_total 8 = .ok (.ireturn, 1) := by decide +kernel
set_option maxRecDepth 20000 in
theorem ggX7_pieceValue_X7_valueOf : GoodIn wsX7_pieceValue wsX7_valueOf := goodIn_r _ [6, 1, 7, 8, 9, 10, 11, 12, 13, 14, 15, 16, 17, 18, 19, 20, 21, 22] (by decide +kernel) (by decide +kernel)
set_option maxRecDepth 20000 in
theorem gX7_pieceValue_X7_valueOf : GoodIn wsX7_pieceValue (wsV RX7 47 RX7 yX7_valueOf wsX7_valueOf) := goodIn_app (goodIn_of _ (by decide +kernel)) ggX7_pieceValue_X7_valueOf
theorem dX7_pieceValue_0 : decode cX7_pieceValue 0 = .ok (.iconst 0, 1) := by decide +kernel
theorem dX7_pieceValue_1 : decode cX7_pieceValue 1 = .ok (.istore_n 3, 1) := by decide +kernel
theorem dX7_pieceValue_2 : decode cX7_pieceValue 2 = .ok (.iconst 0, 1) := by decide +kernel
theorem dX7_pieceValue_3 : decode cX7_pieceValue 3 = .ok (.istore 4, 2) := by decide +kernel
theorem dX7_pieceValue_5 : decode cX7_pieceValue 5 = .ok (.iload 4, 2) := by decide +kernel
theorem dX7_pieceValue_7 : decode cX7_pieceValue 7 = .ok (.bipush 24, 2) := by decide +kernel
theorem dX7_pieceValue_9 : decode cX7_pieceValue 9 = .ok (.if_icmp .ge 36, 3) := by decide +kernel
theorem dX7_pieceValue_12 : decode cX7_pieceValue 12 = .ok (.iload_n 3, 1) := by decide +kernel
theorem dX7_pieceValue_13 : decode cX7_pieceValue 13 = .ok (.aload_n 0, 1) := by decide +kernel
theorem dX7_pieceValue_14 : decode cX7_pieceValue 14 = .ok (.getfield 7, 3) := by decide +kernel
theorem dX7_pieceValue_17 : decode cX7_pieceValue 17 = .ok (.iconst 1, 1) := by decide +kernel
theorem dX7_pieceValue_18 : decode cX7_pieceValue 18 = .ok (.iload 4, 2) := by decide +kernel
theorem dX7_pieceValue_20 : decode cX7_pieceValue 20 = .ok (.iadd, 1) := by decide +kernel
theorem dX7_pieceValue_21 : decode cX7_pieceValue 21 = .ok (.iaload, 1) := by decide +kernel
theorem dX7_pieceValue_22 : decode cX7_pieceValue 22 = .ok (.iload_n 2, 1) := by decide +kernel
theorem dX7_pieceValue_23 : decode cX7_pieceValue 23 = .ok (.if_icmp .ne 13, 3) := by decide +kernel
theorem dX7_pieceValue_26 : decode cX7_pieceValue 26 = .ok (.aload_n 0, 1) := by decide +kernel
theorem dX7_pieceValue_27 : decode cX7_pieceValue 27 = .ok (.iload_n 1, 1) := by decide +kernel
theorem dX7_pieceValue_28 : decode cX7_pieceValue 28 = .ok (.iload 4, 2) := by decide +kernel
theorem dX7_pieceValue_30 : decode cX7_pieceValue 30 = .ok (.invokevirtual 47, 3) := by decide +kernel
theorem dX7_pieceValue_33 : decode cX7_pieceValue 33 = .ok (.goto 4, 3) := by decide +kernel
theorem dX7_pieceValue_36 : decode cX7_pieceValue 36 = .ok (.iconst 0, 1) := by decide +kernel
theorem dX7_pieceValue_37 : decode cX7_pieceValue 37 = .ok (.iadd, 1) := by decide +kernel
theorem dX7_pieceValue_38 : decode cX7_pieceValue 38 = .ok (.istore_n 3, 1) := by decide +kernel
theorem dX7_pieceValue_39 : decode cX7_pieceValue 39 = .ok (.iinc 4 1, 3) := by decide +kernel
theorem dX7_pieceValue_42 : decode cX7_pieceValue 42 = .ok (.goto (-37), 3) := by decide +kernel
theorem dX7_pieceValue_45 : decode cX7_pieceValue 45 = .ok (.iload_n 3, 1) := by decide +kernel
theorem dX7_pieceValue_46 : decode cX7_pieceValue 46 = .ok (.ireturn, 1) := by decide +kernel
set_option maxRecDepth 20000 in
theorem ggX7_envyOf_X7_pieceValue : GoodIn wsX7_envyOf wsX7_pieceValue := goodIn_r _ [5, 6, 7, 8, 9, 4, 10, 11, 12, 13, 14, 15, 16, 17, 18, 19, 20, 21, 22, 23, 24, 25, 26] (by decide +kernel) (by decide +kernel)
set_option maxRecDepth 20000 in
theorem gX7_envyOf_X7_pieceValue : GoodIn wsX7_envyOf (wsV RX7 55 RX7 yX7_pieceValue wsX7_pieceValue) := goodIn_app (goodIn_of _ (by decide +kernel)) ggX7_envyOf_X7_pieceValue
theorem dX7_envyOf_0 : decode cX7_envyOf 0 = .ok (.aload_n 0, 1) := by decide +kernel
theorem dX7_envyOf_1 : decode cX7_envyOf 1 = .ok (.iload_n 1, 1) := by decide +kernel
theorem dX7_envyOf_2 : decode cX7_envyOf 2 = .ok (.iload_n 2, 1) := by decide +kernel
theorem dX7_envyOf_3 : decode cX7_envyOf 3 = .ok (.invokevirtual 55, 3) := by decide +kernel
theorem dX7_envyOf_6 : decode cX7_envyOf 6 = .ok (.aload_n 0, 1) := by decide +kernel
theorem dX7_envyOf_7 : decode cX7_envyOf 7 = .ok (.iload_n 1, 1) := by decide +kernel
theorem dX7_envyOf_8 : decode cX7_envyOf 8 = .ok (.iload_n 1, 1) := by decide +kernel
theorem dX7_envyOf_9 : decode cX7_envyOf 9 = .ok (.invokevirtual 55, 3) := by decide +kernel
theorem dX7_envyOf_12 : decode cX7_envyOf 12 = .ok (.isub, 1) := by decide +kernel
theorem dX7_envyOf_13 : decode cX7_envyOf 13 = .ok (.istore_n 3, 1) := by decide +kernel
theorem dX7_envyOf_14 : decode cX7_envyOf 14 = .ok (.iload_n 3, 1) := by decide +kernel
theorem dX7_envyOf_15 : decode cX7_envyOf 15 = .ok (.ifCond .le 7, 3) := by decide +kernel
theorem dX7_envyOf_18 : decode cX7_envyOf 18 = .ok (.iload_n 3, 1) := by decide +kernel
theorem dX7_envyOf_19 : decode cX7_envyOf 19 = .ok (.goto 4, 3) := by decide +kernel
theorem dX7_envyOf_22 : decode cX7_envyOf 22 = .ok (.iconst 0, 1) := by decide +kernel
theorem dX7_envyOf_23 : decode cX7_envyOf 23 = .ok (.ireturn, 1) := by decide +kernel
set_option maxRecDepth 20000 in
theorem ggX7_addGuest_X7_records : GoodIn wsX7_addGuest wsX7_records := goodIn_r _ [6, 7, 8, 9, 10, 5, 11, 1, 12, 13, 14, 15, 16, 17, 18, 19, 20, 21, 22, 23, 24, 25, 26, 27] (by decide +kernel) (by decide +kernel)
set_option maxRecDepth 20000 in
theorem gX7_addGuest_X7_records : GoodIn wsX7_addGuest (wsV RX7 58 RX7 yX7_records wsX7_records) := goodIn_app (goodIn_of _ (by decide +kernel)) ggX7_addGuest_X7_records
theorem dX7_addGuest_0 : decode cX7_addGuest 0 = .ok (.aload_n 0, 1) := by decide +kernel
theorem dX7_addGuest_1 : decode cX7_addGuest 1 = .ok (.getfield 7, 3) := by decide +kernel
theorem dX7_addGuest_4 : decode cX7_addGuest 4 = .ok (.iconst 0, 1) := by decide +kernel
theorem dX7_addGuest_5 : decode cX7_addGuest 5 = .ok (.iaload, 1) := by decide +kernel
theorem dX7_addGuest_6 : decode cX7_addGuest 6 = .ok (.iconst 4, 1) := by decide +kernel
theorem dX7_addGuest_7 : decode cX7_addGuest 7 = .ok (.if_icmp .ne 6, 3) := by decide +kernel
theorem dX7_addGuest_10 : decode cX7_addGuest 10 = .ok (.bipush (-3), 2) := by decide +kernel
theorem dX7_addGuest_12 : decode cX7_addGuest 12 = .ok (.ireturn, 1) := by decide +kernel
theorem dX7_addGuest_13 : decode cX7_addGuest 13 = .ok (.aload_n 0, 1) := by decide +kernel
theorem dX7_addGuest_14 : decode cX7_addGuest 14 = .ok (.invokevirtual 58, 3) := by decide +kernel
theorem dX7_addGuest_17 : decode cX7_addGuest 17 = .ok (.aload_n 0, 1) := by decide +kernel
theorem dX7_addGuest_18 : decode cX7_addGuest 18 = .ok (.getfield 7, 3) := by decide +kernel
theorem dX7_addGuest_21 : decode cX7_addGuest 21 = .ok (.iconst 0, 1) := by decide +kernel
theorem dX7_addGuest_22 : decode cX7_addGuest 22 = .ok (.iaload, 1) := by decide +kernel
theorem dX7_addGuest_23 : decode cX7_addGuest 23 = .ok (.istore_n 1, 1) := by decide +kernel
theorem dX7_addGuest_24 : decode cX7_addGuest 24 = .ok (.aload_n 0, 1) := by decide +kernel
theorem dX7_addGuest_25 : decode cX7_addGuest 25 = .ok (.getfield 7, 3) := by decide +kernel
theorem dX7_addGuest_28 : decode cX7_addGuest 28 = .ok (.iconst 0, 1) := by decide +kernel
theorem dX7_addGuest_29 : decode cX7_addGuest 29 = .ok (.dup2, 1) := by decide +kernel
theorem dX7_addGuest_30 : decode cX7_addGuest 30 = .ok (.iaload, 1) := by decide +kernel
theorem dX7_addGuest_31 : decode cX7_addGuest 31 = .ok (.iconst 1, 1) := by decide +kernel
theorem dX7_addGuest_32 : decode cX7_addGuest 32 = .ok (.iadd, 1) := by decide +kernel
theorem dX7_addGuest_33 : decode cX7_addGuest 33 = .ok (.iastore, 1) := by decide +kernel
theorem dX7_addGuest_34 : decode cX7_addGuest 34 = .ok (.iconst 0, 1) := by decide +kernel
theorem dX7_addGuest_35 : decode cX7_addGuest 35 = .ok (.istore_n 2, 1) := by decide +kernel
theorem dX7_addGuest_36 : decode cX7_addGuest 36 = .ok (.iload_n 2, 1) := by decide +kernel
theorem dX7_addGuest_37 : decode cX7_addGuest 37 = .ok (.bipush 24, 2) := by decide +kernel
theorem dX7_addGuest_39 : decode cX7_addGuest 39 = .ok (.if_icmp .ge 24, 3) := by decide +kernel
theorem dX7_addGuest_42 : decode cX7_addGuest 42 = .ok (.aload_n 0, 1) := by decide +kernel
theorem dX7_addGuest_43 : decode cX7_addGuest 43 = .ok (.getfield 7, 3) := by decide +kernel
theorem dX7_addGuest_46 : decode cX7_addGuest 46 = .ok (.bipush 25, 2) := by decide +kernel
theorem dX7_addGuest_48 : decode cX7_addGuest 48 = .ok (.bipush 24, 2) := by decide +kernel
theorem dX7_addGuest_50 : decode cX7_addGuest 50 = .ok (.iload_n 1, 1) := by decide +kernel
theorem dX7_addGuest_51 : decode cX7_addGuest 51 = .ok (.imul, 1) := by decide +kernel
theorem dX7_addGuest_52 : decode cX7_addGuest 52 = .ok (.iadd, 1) := by decide +kernel
theorem dX7_addGuest_53 : decode cX7_addGuest 53 = .ok (.iload_n 2, 1) := by decide +kernel
theorem dX7_addGuest_54 : decode cX7_addGuest 54 = .ok (.iadd, 1) := by decide +kernel
theorem dX7_addGuest_55 : decode cX7_addGuest 55 = .ok (.iconst 1, 1) := by decide +kernel
theorem dX7_addGuest_56 : decode cX7_addGuest 56 = .ok (.iastore, 1) := by decide +kernel
theorem dX7_addGuest_57 : decode cX7_addGuest 57 = .ok (.iinc 2 1, 3) := by decide +kernel
theorem dX7_addGuest_60 : decode cX7_addGuest 60 = .ok (.goto (-24), 3) := by decide +kernel
theorem dX7_addGuest_63 : decode cX7_addGuest 63 = .ok (.iload_n 1, 1) := by decide +kernel
theorem dX7_addGuest_64 : decode cX7_addGuest 64 = .ok (.ireturn, 1) := by decide +kernel
set_option maxRecDepth 20000 in
theorem ggX7_setValue_X7_isGuest : GoodIn wsX7_setValue wsX7_isGuest := goodIn_r _ [6, 1, 7, 8, 5, 9, 34, 35, 36, 37, 38, 39, 40, 41, 42, 43, 44, 45, 46, 47, 48, 49] (by decide +kernel) (by decide +kernel)
set_option maxRecDepth 20000 in
theorem gX7_setValue_X7_isGuest : GoodIn wsX7_setValue (wsV RX7 43 RX7 yX7_isGuest wsX7_isGuest) := goodIn_app (goodIn_of _ (by decide +kernel)) ggX7_setValue_X7_isGuest
set_option maxRecDepth 20000 in
theorem ggX7_setValue_X7_isSpan : GoodIn wsX7_setValue wsX7_isSpan := goodIn_r _ [12, 7, 8, 5, 9] (by decide +kernel) (by decide +kernel)
set_option maxRecDepth 20000 in
theorem gX7_setValue_X7_isSpan : GoodIn wsX7_setValue (va_wsS RX7 61 yX7_isSpan wsX7_isSpan) := goodIn_app (goodIn_of _ (by decide +kernel)) ggX7_setValue_X7_isSpan
set_option maxRecDepth 20000 in
theorem ggX7_setValue_X7_in : GoodIn wsX7_setValue wsX7_in := goodIn_r _ [9] (by decide +kernel) (by decide +kernel)
set_option maxRecDepth 20000 in
theorem gX7_setValue_X7_in : GoodIn wsX7_setValue (va_wsS RX7 39 yX7_in wsX7_in) := goodIn_app (goodIn_of _ (by decide +kernel)) ggX7_setValue_X7_in
set_option maxRecDepth 20000 in
theorem ggX7_setValue_X7_records : GoodIn wsX7_setValue wsX7_records := goodIn_r _ [16, 17, 18, 19, 20, 5, 21, 1, 34, 35, 36, 37, 38, 39, 40, 41, 42, 43, 44, 45, 46, 47, 48, 49] (by decide +kernel) (by decide +kernel)
set_option maxRecDepth 20000 in
theorem gX7_setValue_X7_records : GoodIn wsX7_setValue (wsV RX7 58 RX7 yX7_records wsX7_records) := goodIn_app (goodIn_of _ (by decide +kernel)) ggX7_setValue_X7_records
set_option maxRecDepth 20000 in
theorem ggX7_setValue_X7_total : GoodIn wsX7_setValue wsX7_total := goodIn_r _ [25, 26, 27, 28, 5, 29, 30, 31, 32, 33, 1, 34, 35, 36, 37, 38, 39, 40, 41, 42, 43, 44, 45, 46, 47, 48, 49] (by decide +kernel) (by decide +kernel)
set_option maxRecDepth 20000 in
theorem gX7_setValue_X7_total : GoodIn wsX7_setValue (wsV RX7 65 RX7 yX7_total wsX7_total) := goodIn_app (goodIn_of _ (by decide +kernel)) ggX7_setValue_X7_total
theorem dX7_setValue_0 : decode cX7_setValue 0 = .ok (.aload_n 0, 1) := by decide +kernel

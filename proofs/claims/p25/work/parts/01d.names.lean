theorem dX6_cut_65 : decode cX6_cut 65 = .ok (.iload 5, 2) := by decide +kernel
theorem dX6_cut_67 : decode cX6_cut 67 = .ok (.iconst 1, 1) := by decide +kernel
theorem dX6_cut_68 : decode cX6_cut 68 = .ok (.isub, 1) := by decide +kernel
theorem dX6_cut_69 : decode cX6_cut 69 = .ok (.invokevirtual 130, 3) := by decide +kernel
theorem dX6_cut_72 : decode cX6_cut 72 = .ok (.aload_n 0, 1) := by decide +kernel
theorem dX6_cut_73 : decode cX6_cut 73 = .ok (.getfield 10, 3) := by decide +kernel
theorem dX6_cut_76 : decode cX6_cut 76 = .ok (.iload_n 2, 1) := by decide +kernel
theorem dX6_cut_77 : decode cX6_cut 77 = .ok (.iload 5, 2) := by decide +kernel
theorem dX6_cut_79 : decode cX6_cut 79 = .ok (.iload 4, 2) := by decide +kernel
theorem dX6_cut_81 : decode cX6_cut 81 = .ok (.invokevirtual 130, 3) := by decide +kernel
theorem dX6_cut_84 : decode cX6_cut 84 = .ok (.if_icmp .lt 7, 3) := by decide +kernel
theorem dX6_cut_87 : decode cX6_cut 87 = .ok (.iconst 1, 1) := by decide +kernel
theorem dX6_cut_88 : decode cX6_cut 88 = .ok (.goto 4, 3) := by decide +kernel
theorem dX6_cut_91 : decode cX6_cut 91 = .ok (.iconst 0, 1) := by decide +kernel
theorem dX6_cut_92 : decode cX6_cut 92 = .ok (.istore 6, 2) := by decide +kernel
theorem dX6_cut_94 : decode cX6_cut 94 = .ok (.aload_n 0, 1) := by decide +kernel
theorem dX6_cut_95 : decode cX6_cut 95 = .ok (.getfield 10, 3) := by decide +kernel
theorem dX6_cut_98 : decode cX6_cut 98 = .ok (.iload 6, 2) := by decide +kernel
theorem dX6_cut_100 : decode cX6_cut 100 = .ok (.ifCond .eq 7, 3) := by decide +kernel
theorem dX6_cut_103 : decode cX6_cut 103 = .ok (.iload_n 2, 1) := by decide +kernel
theorem dX6_cut_104 : decode cX6_cut 104 = .ok (.goto 4, 3) := by decide +kernel
theorem dX6_cut_107 : decode cX6_cut 107 = .ok (.iload_n 1, 1) := by decide +kernel
theorem dX6_cut_108 : decode cX6_cut 108 = .ok (.iload_n 3, 1) := by decide +kernel
theorem dX6_cut_109 : decode cX6_cut 109 = .ok (.iload 5, 2) := by decide +kernel
theorem dX6_cut_111 : decode cX6_cut 111 = .ok (.iconst 1, 1) := by decide +kernel
theorem dX6_cut_112 : decode cX6_cut 112 = .ok (.isub, 1) := by decide +kernel
theorem dX6_cut_113 : decode cX6_cut 113 = .ok (.invokevirtual 99, 3) := by decide +kernel
theorem dX6_cut_116 : decode cX6_cut 116 = .ok (.pop, 1) := by decide +kernel
theorem dX6_cut_117 : decode cX6_cut 117 = .ok (.aload_n 0, 1) := by decide +kernel
theorem dX6_cut_118 : decode cX6_cut 118 = .ok (.getfield 10, 3) := by decide +kernel
theorem dX6_cut_121 : decode cX6_cut 121 = .ok (.iload 6, 2) := by decide +kernel
theorem dX6_cut_123 : decode cX6_cut 123 = .ok (.ifCond .eq 7, 3) := by decide +kernel
theorem dX6_cut_126 : decode cX6_cut 126 = .ok (.iload_n 1, 1) := by decide +kernel
theorem dX6_cut_127 : decode cX6_cut 127 = .ok (.goto 4, 3) := by decide +kernel
theorem dX6_cut_130 : decode cX6_cut 130 = .ok (.iload_n 2, 1) := by decide +kernel
theorem dX6_cut_131 : decode cX6_cut 131 = .ok (.iload 5, 2) := by decide +kernel
theorem dX6_cut_133 : decode cX6_cut 133 = .ok (.iload 4, 2) := by decide +kernel
theorem dX6_cut_135 : decode cX6_cut 135 = .ok (.invokevirtual 99, 3) := by decide +kernel
theorem dX6_cut_138 : decode cX6_cut 138 = .ok (.pop, 1) := by decide +kernel
theorem dX6_cut_139 : decode cX6_cut 139 = .ok (.iload 5, 2) := by decide +kernel
theorem dX6_cut_141 : decode cX6_cut 141 = .ok (.ireturn, 1) := by decide +kernel
set_option maxRecDepth 20000 in
theorem ggX6_trim_X6_isPair : GoodIn wsX6_trim wsX6_isPair := goodIn_r _ [6, 1, 7, 8, 9, 10, 11, 12, 54, 55, 56, 57, 58, 59, 60, 61, 62, 63, 64] (by decide +kernel) (by decide +kernel)
set_option maxRecDepth 20000 in
theorem gX6_trim_X6_isPair : GoodIn wsX6_trim (wsV RX6 121 RX6 yX6_isPair wsX6_isPair) := goodIn_app (goodIn_of _ (by decide +kernel)) ggX6_trim_X6_isPair
set_option maxRecDepth 20000 in
theorem ggX6_trim_X6_record : GoodIn wsX6_trim wsX6_record := goodIn_r _ [16, 17, 18, 1, 19, 20, 21, 22, 5, 23, 24, 25, 26, 10, 27, 12, 28, 29, 30, 31, 32, 33, 34, 35, 36, 37, 38, 39, 40, 41, 54, 55, 56, 57, 58, 59, 60, 61, 62, 63, 64] (by decide +kernel) (by decide +kernel)
set_option maxRecDepth 20000 in
theorem gX6_trim_X6_record : GoodIn wsX6_trim (wsV RX6 59 RX6 yX6_record wsX6_record) := goodIn_app (goodIn_of _ (by decide +kernel)) ggX6_trim_X6_record
set_option maxRecDepth 20000 in
theorem ggX6_trim_X0_trimPiece : GoodIn wsX6_trim wsX0_trimPiece := goodIn_r _ [45, 28, 29, 46, 47, 48, 10, 49, 50, 51, 52, 53, 62, 63, 64] (by decide +kernel) (by decide +kernel)
set_option maxRecDepth 20000 in
theorem gX6_trim_X0_trimPiece : GoodIn wsX6_trim (wsV RX6 133 RX0 yX0_trimPiece wsX0_trimPiece) := goodIn_app (goodIn_of _ (by decide +kernel)) ggX6_trim_X0_trimPiece
theorem dX6_trim_0 : decode cX6_trim 0 = .ok (.aload_n 0, 1) := by decide +kernel
theorem dX6_trim_1 : decode cX6_trim 1 = .ok (.iload_n 1, 1) := by decide +kernel
theorem dX6_trim_2 : decode cX6_trim 2 = .ok (.iload_n 2, 1) := by decide +kernel
theorem dX6_trim_3 : decode cX6_trim 3 = .ok (.invokevirtual 121, 3) := by decide +kernel
theorem dX6_trim_6 : decode cX6_trim 6 = .ok (.ifCond .ne 5, 3) := by decide +kernel
theorem dX6_trim_9 : decode cX6_trim 9 = .ok (.iconst (-1), 1) := by decide +kernel
theorem dX6_trim_10 : decode cX6_trim 10 = .ok (.ireturn, 1) := by decide +kernel
theorem dX6_trim_11 : decode cX6_trim 11 = .ok (.aload_n 0, 1) := by decide +kernel
theorem dX6_trim_12 : decode cX6_trim 12 = .ok (.invokevirtual 59, 3) := by decide +kernel
theorem dX6_trim_15 : decode cX6_trim 15 = .ok (.aload_n 0, 1) := by decide +kernel
theorem dX6_trim_16 : decode cX6_trim 16 = .ok (.getfield 10, 3) := by decide +kernel
theorem dX6_trim_19 : decode cX6_trim 19 = .ok (.iload_n 1, 1) := by decide +kernel
theorem dX6_trim_20 : decode cX6_trim 20 = .ok (.iload_n 2, 1) := by decide +kernel
theorem dX6_trim_21 : decode cX6_trim 21 = .ok (.invokevirtual 133, 3) := by decide +kernel
theorem dX6_trim_24 : decode cX6_trim 24 = .ok (.ireturn, 1) := by decide +kernel
set_option maxRecDepth 20000 in
theorem ggX6_exchange_X3_find : GoodIn wsX6_exchange wsX3_find := goodIn_r _ [8, 9, 10, 11, 12, 13, 14, 7, 15, 16, 17, 18, 19, 20, 21, 22, 23, 24, 25, 26, 27, 28, 29, 30, 31, 32, 33, 34, 35, 36, 37, 38, 39, 40, 41, 42, 43, 44, 45, 46, 47, 48, 49, 50, 51, 52, 53, 54, 55, 56, 57, 58, 59, 60, 61, 62, 63, 64, 114, 115, 116, 112, 113, 117, 118, 119] (by decide +kernel) (by decide +kernel)
set_option maxRecDepth 20000 in
theorem gX6_exchange_X3_find : GoodIn wsX6_exchange (wsV RX6 136 RX3 yX3_find wsX3_find) := goodIn_app (goodIn_of _ (by decide +kernel)) ggX6_exchange_X3_find
set_option maxRecDepth 20000 in
theorem ggX6_exchange_X6_record : GoodIn wsX6_exchange wsX6_record := goodIn_r _ [69, 70, 71, 2, 72, 73, 74, 75, 68, 76, 77, 78, 79, 20, 80, 81, 34, 35, 82, 83, 84, 85, 86, 87, 88, 89, 90, 91, 92, 93, 104, 105, 106, 107, 108, 109, 110, 111, 114, 115, 116] (by decide +kernel) (by decide +kernel)
set_option maxRecDepth 20000 in
theorem gX6_exchange_X6_record : GoodIn wsX6_exchange (wsV RX6 59 RX6 yX6_record wsX6_record) := goodIn_app (goodIn_of _ (by decide +kernel)) ggX6_exchange_X6_record
set_option maxRecDepth 20000 in
theorem ggX6_exchange_X0_passPieces : GoodIn wsX6_exchange wsX0_passPieces := goodIn_r _ [97, 34, 98, 99, 100, 101, 102, 39, 103, 44, 50, 114, 115, 116, 117, 118, 119] (by decide +kernel) (by decide +kernel)
set_option maxRecDepth 20000 in
theorem gX6_exchange_X0_passPieces : GoodIn wsX6_exchange (wsV RX6 144 RX0 yX0_passPieces wsX0_passPieces) := goodIn_app (goodIn_of _ (by decide +kernel)) ggX6_exchange_X0_passPieces
theorem dX6_exchange_0 : decode cX6_exchange 0 = .ok (.aload_n 0, 1) := by decide +kernel
theorem dX6_exchange_1 : decode cX6_exchange 1 = .ok (.getfield 41, 3) := by decide +kernel
theorem dX6_exchange_4 : decode cX6_exchange 4 = .ok (.aload_n 0, 1) := by decide +kernel
theorem dX6_exchange_5 : decode cX6_exchange 5 = .ok (.getfield 10, 3) := by decide +kernel
theorem dX6_exchange_8 : decode cX6_exchange 8 = .ok (.invokevirtual 136, 3) := by decide +kernel
theorem dX6_exchange_11 : decode cX6_exchange 11 = .ok (.istore_n 1, 1) := by decide +kernel
theorem dX6_exchange_12 : decode cX6_exchange 12 = .ok (.iload_n 1, 1) := by decide +kernel
theorem dX6_exchange_13 : decode cX6_exchange 13 = .ok (.ifCond .ne 6, 3) := by decide +kernel
theorem dX6_exchange_16 : decode cX6_exchange 16 = .ok (.bipush (-2), 2) := by decide +kernel
theorem dX6_exchange_18 : decode cX6_exchange 18 = .ok (.ireturn, 1) := by decide +kernel
theorem dX6_exchange_19 : decode cX6_exchange 19 = .ok (.aload_n 0, 1) := by decide +kernel
theorem dX6_exchange_20 : decode cX6_exchange 20 = .ok (.invokevirtual 59, 3) := by decide +kernel
theorem dX6_exchange_23 : decode cX6_exchange 23 = .ok (.aload_n 0, 1) := by decide +kernel
theorem dX6_exchange_24 : decode cX6_exchange 24 = .ok (.getfield 10, 3) := by decide +kernel
theorem dX6_exchange_27 : decode cX6_exchange 27 = .ok (.aload_n 0, 1) := by decide +kernel
theorem dX6_exchange_28 : decode cX6_exchange 28 = .ok (.getfield 41, 3) := by decide +kernel
theorem dX6_exchange_31 : decode cX6_exchange 31 = .ok (.getfield 140, 3) := by decide +kernel
theorem dX6_exchange_34 : decode cX6_exchange 34 = .ok (.invokevirtual 144, 3) := by decide +kernel
theorem dX6_exchange_37 : decode cX6_exchange 37 = .ok (.iload_n 1, 1) := by decide +kernel
theorem dX6_exchange_38 : decode cX6_exchange 38 = .ok (.ireturn, 1) := by decide +kernel
set_option maxRecDepth 20000 in
theorem ggX6_undo_X0_become : GoodIn wsX6_undo wsX0_become := goodIn_r _ [9, 10, 11, 12, 13, 14, 15, 8, 16, 17, 18, 19, 20, 21, 22, 23, 24, 33, 34, 35] (by decide +kernel) (by decide +kernel)
set_option maxRecDepth 20000 in
theorem gX6_undo_X0_become : GoodIn wsX6_undo (wsV RX6 148 RX0 yX0_become wsX0_become) := goodIn_app (goodIn_of _ (by decide +kernel)) ggX6_undo_X0_become
theorem dX6_undo_0 : decode cX6_undo 0 = .ok (.aload_n 0, 1) := by decide +kernel
theorem dX6_undo_1 : decode cX6_undo 1 = .ok (.getfield 20, 3) := by decide +kernel
theorem dX6_undo_4 : decode cX6_undo 4 = .ok (.iconst 1, 1) := by decide +kernel
theorem dX6_undo_5 : decode cX6_undo 5 = .ok (.if_icmp .lt 11, 3) := by decide +kernel
theorem dX6_undo_8 : decode cX6_undo 8 = .ok (.aload_n 0, 1) := by decide +kernel
theorem dX6_undo_9 : decode cX6_undo 9 = .ok (.getfield 20, 3) := by decide +kernel
theorem dX6_undo_12 : decode cX6_undo 12 = .ok (.iconst 5, 1) := by decide +kernel
theorem dX6_undo_13 : decode cX6_undo 13 = .ok (.if_icmp .le 6, 3) := by decide +kernel
theorem dX6_undo_16 : decode cX6_undo 16 = .ok (.bipush (-2), 2) := by decide +kernel
theorem dX6_undo_18 : decode cX6_undo 18 = .ok (.ireturn, 1) := by decide +kernel
theorem dX6_undo_19 : decode cX6_undo 19 = .ok (.aload_n 0, 1) := by decide +kernel
theorem dX6_undo_20 : decode cX6_undo 20 = .ok (.dup, 1) := by decide +kernel
theorem dX6_undo_21 : decode cX6_undo 21 = .ok (.getfield 20, 3) := by decide +kernel
theorem dX6_undo_24 : decode cX6_undo 24 = .ok (.iconst 1, 1) := by decide +kernel
theorem dX6_undo_25 : decode cX6_undo 25 = .ok (.isub, 1) := by decide +kernel
theorem dX6_undo_26 : decode cX6_undo 26 = .ok (.putfield 20, 3) := by decide +kernel
theorem dX6_undo_29 : decode cX6_undo 29 = .ok (.aload_n 0, 1) := by decide +kernel
theorem dX6_undo_30 : decode cX6_undo 30 = .ok (.getfield 10, 3) := by decide +kernel
theorem dX6_undo_33 : decode cX6_undo 33 = .ok (.aload_n 0, 1) := by decide +kernel
theorem dX6_undo_34 : decode cX6_undo 34 = .ok (.getfield 16, 3) := by decide +kernel
theorem dX6_undo_37 : decode cX6_undo 37 = .ok (.aload_n 0, 1) := by decide +kernel
theorem dX6_undo_38 : decode cX6_undo 38 = .ok (.getfield 20, 3) := by decide +kernel
theorem dX6_undo_41 : decode cX6_undo 41 = .ok (.aaload, 1) := by decide +kernel
theorem dX6_undo_42 : decode cX6_undo 42 = .ok (.invokevirtual 148, 3) := by decide +kernel
theorem dX6_undo_45 : decode cX6_undo 45 = .ok (.aload_n 0, 1) := by decide +kernel
theorem dX6_undo_46 : decode cX6_undo 46 = .ok (.iconst 0, 1) := by decide +kernel
theorem dX6_undo_47 : decode cX6_undo 47 = .ok (.putfield 52, 3) := by decide +kernel
theorem dX6_undo_50 : decode cX6_undo 50 = .ok (.aload_n 0, 1) := by decide +kernel
theorem dX6_undo_51 : decode cX6_undo 51 = .ok (.getfield 20, 3) := by decide +kernel
theorem dX6_undo_54 : decode cX6_undo 54 = .ok (.ireturn, 1) := by decide +kernel
set_option maxRecDepth 20000 in
theorem ggX6_count_X0_crumbsOf : GoodIn wsX6_count wsX0_crumbsOf := goodIn_r _ [10, 11, 58, 59, 60] (by decide +kernel) (by decide +kernel)
set_option maxRecDepth 20000 in
theorem gX6_count_X0_crumbsOf : GoodIn wsX6_count (wsV RX6 152 RX0 yX0_crumbsOf wsX0_crumbsOf) := goodIn_app (goodIn_of _ (by decide +kernel)) ggX6_count_X0_crumbsOf
set_option maxRecDepth 20000 in
theorem ggX6_count_X0_arrows : GoodIn wsX6_count wsX0_arrows := goodIn_r _ [15, 16, 17, 18, 19, 9, 20, 21, 22, 23, 24, 25, 26, 27, 28, 29, 30, 31, 32, 11, 33, 58, 59, 60] (by decide +kernel) (by decide +kernel)
set_option maxRecDepth 20000 in
theorem gX6_count_X0_arrows : GoodIn wsX6_count (wsV RX6 155 RX0 yX0_arrows wsX0_arrows) := goodIn_app (goodIn_of _ (by decide +kernel)) ggX6_count_X0_arrows
set_option maxRecDepth 20000 in
theorem ggX6_count_X0_allEnvies : GoodIn wsX6_count wsX0_allEnvies := goodIn_r _ [37, 16, 17, 18, 19, 9, 20, 21, 22, 23, 24, 25, 26, 27, 28, 29, 30, 31, 32, 11, 33, 58, 59, 60] (by decide +kernel) (by decide +kernel)
set_option maxRecDepth 20000 in
theorem gX6_count_X0_allEnvies : GoodIn wsX6_count (wsV RX6 158 RX0 yX0_allEnvies wsX0_allEnvies) := goodIn_app (goodIn_of _ (by decide +kernel)) ggX6_count_X0_allEnvies
set_option maxRecDepth 20000 in
theorem ggX6_count_X0_contentGuests : GoodIn wsX6_count wsX0_contentGuests := goodIn_r _ [41, 16, 42, 43, 44, 9, 45, 46, 47, 48, 49, 33, 25, 26, 27, 28, 29, 30, 31, 32, 11, 58, 59, 60] (by decide +kernel) (by decide +kernel)
set_option maxRecDepth 20000 in
theorem gX6_count_X0_contentGuests : GoodIn wsX6_count (wsV RX6 161 RX0 yX0_contentGuests wsX0_contentGuests) := goodIn_app (goodIn_of _ (by decide +kernel)) ggX6_count_X0_contentGuests
theorem dX6_count_0 : decode cX6_count 0 = .ok (.iload_n 1, 1) := by decide +kernel
theorem dX6_count_1 : decode cX6_count 1 = .ok (.tableswitch 117 0 7 #[47, 55, 64, 72, 80, 96, 104, 109], 47) := by decide +kernel
theorem dX6_count_48 : decode cX6_count 48 = .ok (.aload_n 0, 1) := by decide +kernel
theorem dX6_count_49 : decode cX6_count 49 = .ok (.getfield 10, 3) := by decide +kernel
theorem dX6_count_52 : decode cX6_count 52 = .ok (.getfield 56, 3) := by decide +kernel
theorem dX6_count_55 : decode cX6_count 55 = .ok (.ireturn, 1) := by decide +kernel
theorem dX6_count_56 : decode cX6_count 56 = .ok (.aload_n 0, 1) := by decide +kernel
theorem dX6_count_57 : decode cX6_count 57 = .ok (.getfield 10, 3) := by decide +kernel
theorem dX6_count_60 : decode cX6_count 60 = .ok (.iconst (-1), 1) := by decide +kernel
theorem dX6_count_61 : decode cX6_count 61 = .ok (.invokevirtual 152, 3) := by decide +kernel
theorem dX6_count_64 : decode cX6_count 64 = .ok (.ireturn, 1) := by decide +kernel
theorem dX6_count_65 : decode cX6_count 65 = .ok (.aload_n 0, 1) := by decide +kernel
theorem dX6_count_66 : decode cX6_count 66 = .ok (.getfield 10, 3) := by decide +kernel
theorem dX6_count_69 : decode cX6_count 69 = .ok (.invokevirtual 155, 3) := by decide +kernel
theorem dX6_count_72 : decode cX6_count 72 = .ok (.ireturn, 1) := by decide +kernel
theorem dX6_count_73 : decode cX6_count 73 = .ok (.aload_n 0, 1) := by decide +kernel
theorem dX6_count_74 : decode cX6_count 74 = .ok (.getfield 10, 3) := by decide +kernel
theorem dX6_count_77 : decode cX6_count 77 = .ok (.invokevirtual 158, 3) := by decide +kernel
theorem dX6_count_80 : decode cX6_count 80 = .ok (.ireturn, 1) := by decide +kernel
theorem dX6_count_81 : decode cX6_count 81 = .ok (.aload_n 0, 1) := by decide +kernel
theorem dX6_count_82 : decode cX6_count 82 = .ok (.getfield 10, 3) := by decide +kernel
theorem dX6_count_85 : decode cX6_count 85 = .ok (.invokevirtual 155, 3) := by decide +kernel
theorem dX6_count_88 : decode cX6_count 88 = .ok (.ifCond .ne 7, 3) := by decide +kernel
theorem dX6_count_91 : decode cX6_count 91 = .ok (.iconst 1, 1) := by decide +kernel
theorem dX6_count_92 : decode cX6_count 92 = .ok (.goto 4, 3) := by decide +kernel
theorem dX6_count_95 : decode cX6_count 95 = .ok (.iconst 0, 1) := by decide +kernel
theorem dX6_count_96 : decode cX6_count 96 = .ok (.ireturn, 1) := by decide +kernel
theorem dX6_count_97 : decode cX6_count 97 = .ok (.aload_n 0, 1) := by decide +kernel
theorem dX6_count_98 : decode cX6_count 98 = .ok (.getfield 10, 3) := by decide +kernel
theorem dX6_count_101 : decode cX6_count 101 = .ok (.invokevirtual 161, 3) := by decide +kernel
theorem dX6_count_104 : decode cX6_count 104 = .ok (.ireturn, 1) := by decide +kernel
theorem dX6_count_105 : decode cX6_count 105 = .ok (.aload_n 0, 1) := by decide +kernel
theorem dX6_count_106 : decode cX6_count 106 = .ok (.getfield 20, 3) := by decide +kernel
theorem dX6_count_109 : decode cX6_count 109 = .ok (.ireturn, 1) := by decide +kernel
theorem dX6_count_110 : decode cX6_count 110 = .ok (.aload_n 0, 1) := by decide +kernel
theorem dX6_count_111 : decode cX6_count 111 = .ok (.getfield 27, 3) := by decide +kernel
theorem dX6_count_114 : decode cX6_count 114 = .ok (.getfield 82, 3) := by decide +kernel
theorem dX6_count_117 : decode cX6_count 117 = .ok (.ireturn, 1) := by decide +kernel
theorem dX6_count_118 : decode cX6_count 118 = .ok (.iconst (-1), 1) := by decide +kernel
theorem dX6_count_119 : decode cX6_count 119 = .ok (.ireturn, 1) := by decide +kernel
set_option maxRecDepth 20000 in
theorem ggX6_guest_X0_isGuest : GoodIn wsX6_guest wsX0_isGuest := goodIn_r _ [6, 7, 53, 54, 55] (by decide +kernel) (by decide +kernel)
set_option maxRecDepth 20000 in
theorem gX6_guest_X0_isGuest : GoodIn wsX6_guest (wsV RX6 66 RX0 yX0_isGuest wsX0_isGuest) := goodIn_app (goodIn_of _ (by decide +kernel)) ggX6_guest_X0_isGuest
set_option maxRecDepth 20000 in
theorem ggX6_guest_X0_total : GoodIn wsX6_guest wsX0_total := goodIn_r _ [11, 12, 13, 14, 5, 15, 16, 53, 54, 55] (by decide +kernel) (by decide +kernel)
set_option maxRecDepth 20000 in
theorem gX6_guest_X0_total : GoodIn wsX6_guest (wsV RX6 78 RX0 yX0_total wsX0_total) := goodIn_app (goodIn_of _ (by decide +kernel)) ggX6_guest_X0_total
set_option maxRecDepth 20000 in
theorem ggX6_guest_X0_worth : GoodIn wsX6_guest wsX0_worth := goodIn_r _ [20, 21, 22, 23, 5, 24, 25, 16, 53, 54, 55] (by decide +kernel) (by decide +kernel)
set_option maxRecDepth 20000 in
theorem gX6_guest_X0_worth : GoodIn wsX6_guest (wsV RX6 164 RX0 yX0_worth wsX0_worth) := goodIn_app (goodIn_of _ (by decide +kernel)) ggX6_guest_X0_worth
set_option maxRecDepth 20000 in
theorem ggX6_guest_X0_crumbsOf : GoodIn wsX6_guest wsX0_crumbsOf := goodIn_r _ [29, 25, 53, 54, 55] (by decide +kernel) (by decide +kernel)
set_option maxRecDepth 20000 in
theorem gX6_guest_X0_crumbsOf : GoodIn wsX6_guest (wsV RX6 152 RX0 yX0_crumbsOf wsX0_crumbsOf) := goodIn_app (goodIn_of _ (by decide +kernel)) ggX6_guest_X0_crumbsOf
set_option maxRecDepth 20000 in
theorem ggX6_guest_X6_lowestNumerator : GoodIn wsX6_guest wsX6_lowestNumerator := goodIn_r _ [33, 34, 35, 32, 36, 37] (by decide +kernel) (by decide +kernel)
set_option maxRecDepth 20000 in
theorem gX6_guest_X6_lowestNumerator : GoodIn wsX6_guest (va_wsS RX6 167 yX6_lowestNumerator wsX6_lowestNumerator) := goodIn_app (goodIn_of _ (by decide +kernel)) ggX6_guest_X6_lowestNumerator
set_option maxRecDepth 20000 in
theorem ggX6_guest_X6_lowestDenominator : GoodIn wsX6_guest wsX6_lowestDenominator := goodIn_r _ [40, 34, 35, 32, 36, 37] (by decide +kernel) (by decide +kernel)
set_option maxRecDepth 20000 in
theorem gX6_guest_X6_lowestDenominator : GoodIn wsX6_guest (va_wsS RX6 170 yX6_lowestDenominator wsX6_lowestDenominator) := goodIn_app (goodIn_of _ (by decide +kernel)) ggX6_guest_X6_lowestDenominator
set_option maxRecDepth 20000 in
theorem ggX6_guest_X0_spansOf : GoodIn wsX6_guest wsX0_spansOf := goodIn_r _ [44, 25, 53, 54, 55] (by decide +kernel) (by decide +kernel)
set_option maxRecDepth 20000 in
theorem gX6_guest_X0_spansOf : GoodIn wsX6_guest (wsV RX6 173 RX0 yX0_spansOf wsX0_spansOf) := goodIn_app (goodIn_of _ (by decide +kernel)) ggX6_guest_X0_spansOf
theorem dX6_guest_0 : decode cX6_guest 0 = .ok (.aload_n 0, 1) := by decide +kernel
theorem dX6_guest_1 : decode cX6_guest 1 = .ok (.getfield 10, 3) := by decide +kernel
theorem dX6_guest_4 : decode cX6_guest 4 = .ok (.iload_n 1, 1) := by decide +kernel
theorem dX6_guest_5 : decode cX6_guest 5 = .ok (.invokevirtual 66, 3) := by decide +kernel
theorem dX6_guest_8 : decode cX6_guest 8 = .ok (.ifCond .ne 5, 3) := by decide +kernel
theorem dX6_guest_11 : decode cX6_guest 11 = .ok (.iconst (-1), 1) := by decide +kernel
theorem dX6_guest_12 : decode cX6_guest 12 = .ok (.ireturn, 1) := by decide +kernel
theorem dX6_guest_13 : decode cX6_guest 13 = .ok (.iload_n 2, 1) := by decide +kernel
theorem dX6_guest_14 : decode cX6_guest 14 = .ok (.tableswitch 131 0 6 #[42, 51, 61, 70, 91, 112, 121], 42) := by decide +kernel
theorem dX6_guest_56 : decode cX6_guest 56 = .ok (.aload_n 0, 1) := by decide +kernel
theorem dX6_guest_57 : decode cX6_guest 57 = .ok (.getfield 10, 3) := by decide +kernel
theorem dX6_guest_60 : decode cX6_guest 60 = .ok (.iload_n 1, 1) := by decide +kernel
theorem dX6_guest_61 : decode cX6_guest 61 = .ok (.invokevirtual 78, 3) := by decide +kernel
theorem dX6_guest_64 : decode cX6_guest 64 = .ok (.ireturn, 1) := by decide +kernel
theorem dX6_guest_65 : decode cX6_guest 65 = .ok (.aload_n 0, 1) := by decide +kernel
theorem dX6_guest_66 : decode cX6_guest 66 = .ok (.getfield 10, 3) := by decide +kernel
theorem dX6_guest_69 : decode cX6_guest 69 = .ok (.iload_n 1, 1) := by decide +kernel
theorem dX6_guest_70 : decode cX6_guest 70 = .ok (.iload_n 1, 1) := by decide +kernel
theorem dX6_guest_71 : decode cX6_guest 71 = .ok (.invokevirtual 164, 3) := by decide +kernel
theorem dX6_guest_74 : decode cX6_guest 74 = .ok (.ireturn, 1) := by decide +kernel
theorem dX6_guest_75 : decode cX6_guest 75 = .ok (.aload_n 0, 1) := by decide +kernel
theorem dX6_guest_76 : decode cX6_guest 76 = .ok (.getfield 10, 3) := by decide +kernel
theorem dX6_guest_79 : decode cX6_guest 79 = .ok (.iload_n 1, 1) := by decide +kernel
theorem dX6_guest_80 : decode cX6_guest 80 = .ok (.invokevirtual 152, 3) := by decide +kernel
theorem dX6_guest_83 : decode cX6_guest 83 = .ok (.ireturn, 1) := by decide +kernel
theorem dX6_guest_84 : decode cX6_guest 84 = .ok (.aload_n 0, 1) := by decide +kernel
theorem dX6_guest_85 : decode cX6_guest 85 = .ok (.getfield 10, 3) := by decide +kernel
theorem dX6_guest_88 : decode cX6_guest 88 = .ok (.iload_n 1, 1) := by decide +kernel
theorem dX6_guest_89 : decode cX6_guest 89 = .ok (.iload_n 1, 1) := by decide +kernel
theorem dX6_guest_90 : decode cX6_guest 90 = .ok (.invokevirtual 164, 3) := by decide +kernel
theorem dX6_guest_93 : decode cX6_guest 93 = .ok (.aload_n 0, 1) := by decide +kernel
theorem dX6_guest_94 : decode cX6_guest 94 = .ok (.getfield 10, 3) := by decide +kernel
theorem dX6_guest_97 : decode cX6_guest 97 = .ok (.iload_n 1, 1) := by decide +kernel
theorem dX6_guest_98 : decode cX6_guest 98 = .ok (.invokevirtual 78, 3) := by decide +kernel
theorem dX6_guest_101 : decode cX6_guest 101 = .ok (.invokestatic 167, 3) := by decide +kernel
theorem dX6_guest_104 : decode cX6_guest 104 = .ok (.ireturn, 1) := by decide +kernel
theorem dX6_guest_105 : decode cX6_guest 105 = .ok (.aload_n 0, 1) := by decide +kernel
theorem dX6_guest_106 : decode cX6_guest 106 = .ok (.getfield 10, 3) := by decide +kernel
theorem dX6_guest_109 : decode cX6_guest 109 = .ok (.iload_n 1, 1) := by decide +kernel
theorem dX6_guest_110 : decode cX6_guest 110 = .ok (.iload_n 1, 1) := by decide +kernel
theorem dX6_guest_111 : decode cX6_guest 111 = .ok (.invokevirtual 164, 3) := by decide +kernel
theorem dX6_guest_114 : decode cX6_guest 114 = .ok (.aload_n 0, 1) := by decide +kernel
theorem dX6_guest_115 : decode cX6_guest 115 = .ok (.getfield 10, 3) := by decide +kernel
theorem dX6_guest_118 : decode cX6_guest 118 = .ok (.iload_n 1, 1) := by decide +kernel
theorem dX6_guest_119 : decode cX6_guest 119 = .ok (.invokevirtual 78, 3) := by decide +kernel
theorem dX6_guest_122 : decode cX6_guest 122 = .ok (.invokestatic 170, 3) := by decide +kernel
theorem dX6_guest_125 : decode cX6_guest 125 = .ok (.ireturn, 1) := by decide +kernel
theorem dX6_guest_126 : decode cX6_guest 126 = .ok (.aload_n 0, 1) := by decide +kernel
theorem dX6_guest_127 : decode cX6_guest 127 = .ok (.getfield 10, 3) := by decide +kernel
theorem dX6_guest_130 : decode cX6_guest 130 = .ok (.iload_n 1, 1) := by decide +kernel
theorem dX6_guest_131 : decode cX6_guest 131 = .ok (.invokevirtual 173, 3) := by decide +kernel
theorem dX6_guest_134 : decode cX6_guest 134 = .ok (.ireturn, 1) := by decide +kernel
theorem dX6_guest_135 : decode cX6_guest 135 = .ok (.aload_n 0, 1) := by decide +kernel
theorem dX6_guest_136 : decode cX6_guest 136 = .ok (.getfield 10, 3) := by decide +kernel
theorem dX6_guest_139 : decode cX6_guest 139 = .ok (.iload_n 1, 1) := by decide +kernel
theorem dX6_guest_140 : decode cX6_guest 140 = .ok (.iconst (-1), 1) := by decide +kernel
theorem dX6_guest_141 : decode cX6_guest 141 = .ok (.invokevirtual 164, 3) := by decide +kernel
theorem dX6_guest_144 : decode cX6_guest 144 = .ok (.ireturn, 1) := by decide +kernel
theorem dX6_guest_145 : decode cX6_guest 145 = .ok (.iconst (-1), 1) := by decide +kernel
theorem dX6_guest_146 : decode cX6_guest 146 = .ok (.ireturn, 1) := by decide +kernel
theorem dX6_crumb_0 : decode cX6_crumb 0 = .ok (.iload_n 1, 1) := by decide +kernel
theorem dX6_crumb_1 : decode cX6_crumb 1 = .ok (.ifCond .lt 9, 3) := by decide +kernel
theorem dX6_crumb_4 : decode cX6_crumb 4 = .ok (.iload_n 1, 1) := by decide +kernel
theorem dX6_crumb_5 : decode cX6_crumb 5 = .ok (.bipush 24, 2) := by decide +kernel
theorem dX6_crumb_7 : decode cX6_crumb 7 = .ok (.if_icmp .lt 5, 3) := by decide +kernel
theorem dX6_crumb_10 : decode cX6_crumb 10 = .ok (.iconst (-1), 1) := by decide +kernel
theorem dX6_crumb_11 : decode cX6_crumb 11 = .ok (.ireturn, 1) := by decide +kernel
theorem dX6_crumb_12 : decode cX6_crumb 12 = .ok (.aload_n 0, 1) := by decide +kernel
theorem dX6_crumb_13 : decode cX6_crumb 13 = .ok (.getfield 10, 3) := by decide +kernel
theorem dX6_crumb_16 : decode cX6_crumb 16 = .ok (.getfield 176, 3) := by decide +kernel
theorem dX6_crumb_19 : decode cX6_crumb 19 = .ok (.iload_n 1, 1) := by decide +kernel
theorem dX6_crumb_20 : decode cX6_crumb 20 = .ok (.iaload, 1) := by decide +kernel
theorem dX6_crumb_21 : decode cX6_crumb 21 = .ok (.istore_n 2, 1) := by decide +kernel
theorem dX6_crumb_22 : decode cX6_crumb 22 = .ok (.iload_n 2, 1) := by decide +kernel
theorem dX6_crumb_23 : decode cX6_crumb 23 = .ok (.iconst (-1), 1) := by decide +kernel
theorem dX6_crumb_24 : decode cX6_crumb 24 = .ok (.if_icmp .ne 8, 3) := by decide +kernel
theorem dX6_crumb_27 : decode cX6_crumb 27 = .ok (.bipush (-9), 2) := by decide +kernel
theorem dX6_crumb_29 : decode cX6_crumb 29 = .ok (.goto 4, 3) := by decide +kernel
theorem dX6_crumb_32 : decode cX6_crumb 32 = .ok (.iload_n 2, 1) := by decide +kernel
theorem dX6_crumb_33 : decode cX6_crumb 33 = .ok (.ireturn, 1) := by decide +kernel
set_option maxRecDepth 20000 in
theorem ggX6_value_X0_isGuest : GoodIn wsX6_value wsX0_isGuest := goodIn_r _ [7, 8, 17, 18, 19] (by decide +kernel) (by decide +kernel)
set_option maxRecDepth 20000 in
theorem gX6_value_X0_isGuest : GoodIn wsX6_value (wsV RX6 66 RX0 yX0_isGuest wsX0_isGuest) := goodIn_app (goodIn_of _ (by decide +kernel)) ggX6_value_X0_isGuest
theorem dX6_value_0 : decode cX6_value 0 = .ok (.aload_n 0, 1) := by decide +kernel
theorem dX6_value_1 : decode cX6_value 1 = .ok (.getfield 10, 3) := by decide +kernel
theorem dX6_value_4 : decode cX6_value 4 = .ok (.iload_n 1, 1) := by decide +kernel
theorem dX6_value_5 : decode cX6_value 5 = .ok (.invokevirtual 66, 3) := by decide +kernel
theorem dX6_value_8 : decode cX6_value 8 = .ok (.ifCond .eq 13, 3) := by decide +kernel
theorem dX6_value_11 : decode cX6_value 11 = .ok (.iload_n 2, 1) := by decide +kernel
theorem dX6_value_12 : decode cX6_value 12 = .ok (.ifCond .lt 9, 3) := by decide +kernel
theorem dX6_value_15 : decode cX6_value 15 = .ok (.iload_n 2, 1) := by decide +kernel
theorem dX6_value_16 : decode cX6_value 16 = .ok (.bipush 24, 2) := by decide +kernel
theorem dX6_value_18 : decode cX6_value 18 = .ok (.if_icmp .lt 5, 3) := by decide +kernel
theorem dX6_value_21 : decode cX6_value 21 = .ok (.iconst (-1), 1) := by decide +kernel
theorem dX6_value_22 : decode cX6_value 22 = .ok (.ireturn, 1) := by decide +kernel
theorem dX6_value_23 : decode cX6_value 23 = .ok (.aload_n 0, 1) := by decide +kernel
theorem dX6_value_24 : decode cX6_value 24 = .ok (.getfield 10, 3) := by decide +kernel
theorem dX6_value_27 : decode cX6_value 27 = .ok (.getfield 177, 3) := by decide +kernel
theorem dX6_value_30 : decode cX6_value 30 = .ok (.iload_n 1, 1) := by decide +kernel
theorem dX6_value_31 : decode cX6_value 31 = .ok (.aaload, 1) := by decide +kernel
theorem dX6_value_32 : decode cX6_value 32 = .ok (.iload_n 2, 1) := by decide +kernel
theorem dX6_value_33 : decode cX6_value 33 = .ok (.iaload, 1) := by decide +kernel
theorem dX6_value_34 : decode cX6_value 34 = .ok (.ireturn, 1) := by decide +kernel
set_option maxRecDepth 20000 in
theorem ggX6_envy_X6_isPair : GoodIn wsX6_envy wsX6_isPair := goodIn_r _ [6, 1, 7, 8, 9, 10, 11, 12, 31, 32, 33, 34, 35, 36, 37, 38, 39, 40, 41] (by decide +kernel) (by decide +kernel)
set_option maxRecDepth 20000 in
theorem gX6_envy_X6_isPair : GoodIn wsX6_envy (wsV RX6 121 RX6 yX6_isPair wsX6_isPair) := goodIn_app (goodIn_of _ (by decide +kernel)) ggX6_envy_X6_isPair
set_option maxRecDepth 20000 in
theorem ggX6_envy_X0_envyOf : GoodIn wsX6_envy wsX0_envyOf := goodIn_r _ [16, 17, 18, 19, 20, 21, 22, 23, 10, 24, 25, 26, 27, 28, 29, 30, 39, 40, 41] (by decide +kernel) (by decide +kernel)
set_option maxRecDepth 20000 in
theorem gX6_envy_X0_envyOf : GoodIn wsX6_envy (wsV RX6 180 RX0 yX0_envyOf wsX0_envyOf) := goodIn_app (goodIn_of _ (by decide +kernel)) ggX6_envy_X0_envyOf
theorem dX6_envy_0 : decode cX6_envy 0 = .ok (.aload_n 0, 1) := by decide +kernel
theorem dX6_envy_1 : decode cX6_envy 1 = .ok (.iload_n 1, 1) := by decide +kernel
theorem dX6_envy_2 : decode cX6_envy 2 = .ok (.iload_n 2, 1) := by decide +kernel
theorem dX6_envy_3 : decode cX6_envy 3 = .ok (.invokevirtual 121, 3) := by decide +kernel
theorem dX6_envy_6 : decode cX6_envy 6 = .ok (.ifCond .eq 15, 3) := by decide +kernel
theorem dX6_envy_9 : decode cX6_envy 9 = .ok (.aload_n 0, 1) := by decide +kernel
theorem dX6_envy_10 : decode cX6_envy 10 = .ok (.getfield 10, 3) := by decide +kernel
theorem dX6_envy_13 : decode cX6_envy 13 = .ok (.iload_n 1, 1) := by decide +kernel
theorem dX6_envy_14 : decode cX6_envy 14 = .ok (.iload_n 2, 1) := by decide +kernel
theorem dX6_envy_15 : decode cX6_envy 15 = .ok (.invokevirtual 180, 3) := by decide +kernel
theorem dX6_envy_18 : decode cX6_envy 18 = .ok (.goto 4, 3) := by decide +kernel
theorem dX6_envy_21 : decode cX6_envy 21 = .ok (.iconst (-1), 1) := by decide +kernel
theorem dX6_envy_22 : decode cX6_envy 22 = .ok (.ireturn, 1) := by decide +kernel
set_option maxRecDepth 20000 in
theorem ggX6_ring_X3_find : GoodIn wsX6_ring wsX3_find := goodIn_r _ [9, 10, 11, 12, 13, 14, 15, 8, 16, 17, 18, 19, 20, 21, 22, 23, 24, 25, 26, 27, 28, 29, 30, 31, 32, 33, 34, 35, 36, 37, 38, 39, 40, 41, 42, 43, 44, 45, 46, 47, 48, 49, 50, 51, 52, 53, 54, 55, 56, 57, 58, 59, 60, 61, 62, 63, 64, 65, 79, 80, 81, 74, 75, 76, 77, 78] (by decide +kernel) (by decide +kernel)
set_option maxRecDepth 20000 in
theorem gX6_ring_X3_find : GoodIn wsX6_ring (wsV RX6 136 RX3 yX3_find wsX3_find) := goodIn_app (goodIn_of _ (by decide +kernel)) ggX6_ring_X3_find
theorem dX6_ring_0 : decode cX6_ring 0 = .ok (.iload_n 1, 1) := by decide +kernel
theorem dX6_ring_1 : decode cX6_ring 1 = .ok (.ifCond .ge 5, 3) := by decide +kernel
theorem dX6_ring_4 : decode cX6_ring 4 = .ok (.iconst (-1), 1) := by decide +kernel
theorem dX6_ring_5 : decode cX6_ring 5 = .ok (.ireturn, 1) := by decide +kernel
theorem dX6_ring_6 : decode cX6_ring 6 = .ok (.iload_n 1, 1) := by decide +kernel
theorem dX6_ring_7 : decode cX6_ring 7 = .ok (.aload_n 0, 1) := by decide +kernel
theorem dX6_ring_8 : decode cX6_ring 8 = .ok (.getfield 41, 3) := by decide +kernel
theorem dX6_ring_11 : decode cX6_ring 11 = .ok (.aload_n 0, 1) := by decide +kernel
theorem dX6_ring_12 : decode cX6_ring 12 = .ok (.getfield 10, 3) := by decide +kernel
theorem dX6_ring_15 : decode cX6_ring 15 = .ok (.invokevirtual 136, 3) := by decide +kernel
theorem dX6_ring_18 : decode cX6_ring 18 = .ok (.if_icmp .ge 18, 3) := by decide +kernel
theorem dX6_ring_21 : decode cX6_ring 21 = .ok (.aload_n 0, 1) := by decide +kernel
theorem dX6_ring_22 : decode cX6_ring 22 = .ok (.getfield 41, 3) := by decide +kernel
theorem dX6_ring_25 : decode cX6_ring 25 = .ok (.getfield 140, 3) := by decide +kernel
theorem dX6_ring_28 : decode cX6_ring 28 = .ok (.getfield 183, 3) := by decide +kernel
theorem dX6_ring_31 : decode cX6_ring 31 = .ok (.iload_n 1, 1) := by decide +kernel
theorem dX6_ring_32 : decode cX6_ring 32 = .ok (.iaload, 1) := by decide +kernel
theorem dX6_ring_33 : decode cX6_ring 33 = .ok (.goto 5, 3) := by decide +kernel
theorem dX6_ring_36 : decode cX6_ring 36 = .ok (.bipush (-9), 2) := by decide +kernel
theorem dX6_ring_38 : decode cX6_ring 38 = .ok (.ireturn, 1) := by decide +kernel
set_option maxRecDepth 20000 in
theorem ggX6_middle_X0_isGuest : GoodIn wsX6_middle wsX0_isGuest := goodIn_r _ [6, 7, 29, 30, 31] (by decide +kernel) (by decide +kernel)
set_option maxRecDepth 20000 in
theorem gX6_middle_X0_isGuest : GoodIn wsX6_middle (wsV RX6 66 RX0 yX0_isGuest wsX0_isGuest) := goodIn_app (goodIn_of _ (by decide +kernel)) ggX6_middle_X0_isGuest
set_option maxRecDepth 20000 in
theorem ggX6_middle_X0_findCut : GoodIn wsX6_middle wsX0_findCut := goodIn_r _ [11, 12, 13, 14, 15, 16, 17, 18, 19, 5, 20, 29, 30, 31] (by decide +kernel) (by decide +kernel)
set_option maxRecDepth 20000 in
theorem gX6_middle_X0_findCut : GoodIn wsX6_middle (wsV RX6 127 RX0 yX0_findCut wsX0_findCut) := goodIn_app (goodIn_of _ (by decide +kernel)) ggX6_middle_X0_findCut
theorem dX6_middle_0 : decode cX6_middle 0 = .ok (.aload_n 0, 1) := by decide +kernel
theorem dX6_middle_1 : decode cX6_middle 1 = .ok (.getfield 10, 3) := by decide +kernel
theorem dX6_middle_4 : decode cX6_middle 4 = .ok (.iload_n 1, 1) := by decide +kernel
theorem dX6_middle_5 : decode cX6_middle 5 = .ok (.invokevirtual 66, 3) := by decide +kernel
theorem dX6_middle_8 : decode cX6_middle 8 = .ok (.ifCond .eq 17, 3) := by decide +kernel
theorem dX6_middle_11 : decode cX6_middle 11 = .ok (.aload_n 0, 1) := by decide +kernel
theorem dX6_middle_12 : decode cX6_middle 12 = .ok (.getfield 10, 3) := by decide +kernel
theorem dX6_middle_15 : decode cX6_middle 15 = .ok (.iload_n 1, 1) := by decide +kernel
theorem dX6_middle_16 : decode cX6_middle 16 = .ok (.iconst 0, 1) := by decide +kernel
theorem dX6_middle_17 : decode cX6_middle 17 = .ok (.bipush 23, 2) := by decide +kernel
theorem dX6_middle_19 : decode cX6_middle 19 = .ok (.invokevirtual 127, 3) := by decide +kernel
theorem dX6_middle_22 : decode cX6_middle 22 = .ok (.goto 4, 3) := by decide +kernel
theorem dX6_middle_25 : decode cX6_middle 25 = .ok (.iconst (-1), 1) := by decide +kernel
theorem dX6_middle_26 : decode cX6_middle 26 = .ok (.ireturn, 1) := by decide +kernel
set_option maxRecDepth 20000 in
theorem ggX6_best_X6_searchOnce : GoodIn wsX6_best wsX6_searchOnce := goodIn_r _ [12, 13, 3, 1, 14, 15, 16, 17, 18, 19, 20, 21, 22, 23, 24, 25, 26, 27, 28, 29, 30, 31, 32, 33, 34, 35, 36, 37, 38, 39, 40, 41, 42, 43, 44, 45, 46, 47, 48, 49, 50, 51, 52, 53, 54, 55, 56, 57, 58, 59, 60, 61, 62, 63, 64, 65, 66, 67, 68, 69, 70, 71, 72, 73, 74, 75, 76, 77, 78, 79, 80, 81, 82, 83, 84, 85, 86, 87, 88, 89, 90, 91, 92, 93, 94, 95, 96, 97, 98, 99, 110, 111, 112, 113, 114, 115, 116, 117, 121, 122, 123, 124, 125, 126, 127, 128, 129, 130, 131, 132, 133, 134, 118, 119, 120, 135, 136, 137] (by decide +kernel) (by decide +kernel)
set_option maxRecDepth 20000 in
theorem gX6_best_X6_searchOnce : GoodIn wsX6_best (wsV RX6 188 RX6 yX6_searchOnce wsX6_searchOnce) := goodIn_app (goodIn_of _ (by decide +kernel)) ggX6_best_X6_searchOnce
set_option maxRecDepth 20000 in
theorem ggX6_best_X6_lowestNumerator : GoodIn wsX6_best wsX6_lowestNumerator := goodIn_r _ [102, 103, 104, 11, 105, 106] (by decide +kernel) (by decide +kernel)
set_option maxRecDepth 20000 in
theorem gX6_best_X6_lowestNumerator : GoodIn wsX6_best (va_wsS RX6 167 yX6_lowestNumerator wsX6_lowestNumerator) := goodIn_app (goodIn_of _ (by decide +kernel)) ggX6_best_X6_lowestNumerator
set_option maxRecDepth 20000 in
theorem ggX6_best_X6_lowestDenominator : GoodIn wsX6_best wsX6_lowestDenominator := goodIn_r _ [109, 103, 104, 11, 105, 106] (by decide +kernel) (by decide +kernel)
set_option maxRecDepth 20000 in
theorem gX6_best_X6_lowestDenominator : GoodIn wsX6_best (va_wsS RX6 170 yX6_lowestDenominator wsX6_lowestDenominator) := goodIn_app (goodIn_of _ (by decide +kernel)) ggX6_best_X6_lowestDenominator
theorem dX6_best_0 : decode cX6_best 0 = .ok (.iload_n 1, 1) := by decide +kernel
theorem dX6_best_1 : decode cX6_best 1 = .ok (.ifCond .lt 8, 3) := by decide +kernel
theorem dX6_best_4 : decode cX6_best 4 = .ok (.iload_n 1, 1) := by decide +kernel
theorem dX6_best_5 : decode cX6_best 5 = .ok (.iconst 5, 1) := by decide +kernel
theorem dX6_best_6 : decode cX6_best 6 = .ok (.if_icmp .le 5, 3) := by decide +kernel
theorem dX6_best_9 : decode cX6_best 9 = .ok (.iconst (-1), 1) := by decide +kernel
theorem dX6_best_10 : decode cX6_best 10 = .ok (.ireturn, 1) := by decide +kernel
theorem dX6_best_11 : decode cX6_best 11 = .ok (.aload_n 0, 1) := by decide +kernel
theorem dX6_best_12 : decode cX6_best 12 = .ok (.getfield 10, 3) := by decide +kernel
theorem dX6_best_15 : decode cX6_best 15 = .ok (.getfield 56, 3) := by decide +kernel
theorem dX6_best_18 : decode cX6_best 18 = .ok (.iconst 1, 1) := by decide +kernel
theorem dX6_best_19 : decode cX6_best 19 = .ok (.if_icmp .ge 6, 3) := by decide +kernel
theorem dX6_best_22 : decode cX6_best 22 = .ok (.bipush (-2), 2) := by decide +kernel
theorem dX6_best_24 : decode cX6_best 24 = .ok (.ireturn, 1) := by decide +kernel
theorem dX6_best_25 : decode cX6_best 25 = .ok (.aload_n 0, 1) := by decide +kernel
theorem dX6_best_26 : decode cX6_best 26 = .ok (.invokevirtual 188, 3) := by decide +kernel
theorem dX6_best_29 : decode cX6_best 29 = .ok (.iload_n 1, 1) := by decide +kernel
theorem dX6_best_30 : decode cX6_best 30 = .ok (.tableswitch 70 0 2 #[26, 44, 62], 26) := by decide +kernel
theorem dX6_best_56 : decode cX6_best 56 = .ok (.aload_n 0, 1) := by decide +kernel
theorem dX6_best_57 : decode cX6_best 57 = .ok (.getfield 48, 3) := by decide +kernel
theorem dX6_best_60 : decode cX6_best 60 = .ok (.getfield 191, 3) := by decide +kernel
theorem dX6_best_63 : decode cX6_best 63 = .ok (.aload_n 0, 1) := by decide +kernel
theorem dX6_best_64 : decode cX6_best 64 = .ok (.getfield 48, 3) := by decide +kernel
theorem dX6_best_67 : decode cX6_best 67 = .ok (.getfield 194, 3) := by decide +kernel
theorem dX6_best_70 : decode cX6_best 70 = .ok (.invokestatic 167, 3) := by decide +kernel
theorem dX6_best_73 : decode cX6_best 73 = .ok (.ireturn, 1) := by decide +kernel
theorem dX6_best_74 : decode cX6_best 74 = .ok (.aload_n 0, 1) := by decide +kernel
theorem dX6_best_75 : decode cX6_best 75 = .ok (.getfield 48, 3) := by decide +kernel
theorem dX6_best_78 : decode cX6_best 78 = .ok (.getfield 191, 3) := by decide +kernel
theorem dX6_best_81 : decode cX6_best 81 = .ok (.aload_n 0, 1) := by decide +kernel
theorem dX6_best_82 : decode cX6_best 82 = .ok (.getfield 48, 3) := by decide +kernel
theorem dX6_best_85 : decode cX6_best 85 = .ok (.getfield 194, 3) := by decide +kernel
theorem dX6_best_88 : decode cX6_best 88 = .ok (.invokestatic 170, 3) := by decide +kernel
theorem dX6_best_91 : decode cX6_best 91 = .ok (.ireturn, 1) := by decide +kernel
theorem dX6_best_92 : decode cX6_best 92 = .ok (.aload_n 0, 1) := by decide +kernel
theorem dX6_best_93 : decode cX6_best 93 = .ok (.getfield 48, 3) := by decide +kernel
theorem dX6_best_96 : decode cX6_best 96 = .ok (.getfield 197, 3) := by decide +kernel
theorem dX6_best_99 : decode cX6_best 99 = .ok (.ireturn, 1) := by decide +kernel
theorem dX6_best_100 : decode cX6_best 100 = .ok (.iload_n 1, 1) := by decide +kernel
theorem dX6_best_101 : decode cX6_best 101 = .ok (.iconst 2, 1) := by decide +kernel
theorem dX6_best_102 : decode cX6_best 102 = .ok (.isub, 1) := by decide +kernel
theorem dX6_best_103 : decode cX6_best 103 = .ok (.istore_n 2, 1) := by decide +kernel
theorem dX6_best_104 : decode cX6_best 104 = .ok (.iload_n 2, 1) := by decide +kernel
theorem dX6_best_105 : decode cX6_best 105 = .ok (.aload_n 0, 1) := by decide +kernel
theorem dX6_best_106 : decode cX6_best 106 = .ok (.getfield 10, 3) := by decide +kernel
theorem dX6_best_109 : decode cX6_best 109 = .ok (.getfield 56, 3) := by decide +kernel
theorem dX6_best_112 : decode cX6_best 112 = .ok (.if_icmp .ge 15, 3) := by decide +kernel
theorem dX6_best_115 : decode cX6_best 115 = .ok (.aload_n 0, 1) := by decide +kernel
theorem dX6_best_116 : decode cX6_best 116 = .ok (.getfield 48, 3) := by decide +kernel
theorem dX6_best_119 : decode cX6_best 119 = .ok (.getfield 200, 3) := by decide +kernel
theorem dX6_best_122 : decode cX6_best 122 = .ok (.iload_n 2, 1) := by decide +kernel
theorem dX6_best_123 : decode cX6_best 123 = .ok (.iaload, 1) := by decide +kernel
theorem dX6_best_124 : decode cX6_best 124 = .ok (.goto 5, 3) := by decide +kernel
theorem dX6_best_127 : decode cX6_best 127 = .ok (.bipush (-9), 2) := by decide +kernel
theorem dX6_best_129 : decode cX6_best 129 = .ok (.ireturn, 1) := by decide +kernel
set_option maxRecDepth 20000 in
theorem ggX6_calm_X6_searchOnce : GoodIn wsX6_calm wsX6_searchOnce := goodIn_r _ [11, 12, 3, 1, 13, 14, 15, 16, 17, 18, 19, 20, 21, 22, 23, 24, 25, 26, 27, 28, 29, 30, 31, 32, 33, 34, 35, 36, 37, 38, 39, 40, 41, 42, 43, 44, 45, 46, 47, 48, 49, 50, 51, 52, 53, 54, 55, 56, 57, 58, 59, 60, 61, 62, 63, 64, 65, 66, 67, 68, 69, 70, 71, 72, 73, 74, 75, 76, 77, 78, 79, 80, 81, 82, 83, 84, 85, 86, 87, 88, 89, 90, 91, 92, 93, 94, 95, 96, 97, 98, 99, 100, 101, 102, 103, 104, 105, 106, 110, 111, 112, 113, 114, 115, 116, 117, 118, 119, 120, 121, 122, 123, 107, 108, 109, 124, 125, 126] (by decide +kernel) (by decide +kernel)
set_option maxRecDepth 20000 in
theorem gX6_calm_X6_searchOnce : GoodIn wsX6_calm (wsV RX6 188 RX6 yX6_searchOnce wsX6_searchOnce) := goodIn_app (goodIn_of _ (by decide +kernel)) ggX6_calm_X6_searchOnce
theorem dX6_calm_0 : decode cX6_calm 0 = .ok (.iload_n 1, 1) := by decide +kernel
theorem dX6_calm_1 : decode cX6_calm 1 = .ok (.ifCond .lt 8, 3) := by decide +kernel
theorem dX6_calm_4 : decode cX6_calm 4 = .ok (.iload_n 1, 1) := by decide +kernel
theorem dX6_calm_5 : decode cX6_calm 5 = .ok (.iconst 2, 1) := by decide +kernel
theorem dX6_calm_6 : decode cX6_calm 6 = .ok (.if_icmp .le 5, 3) := by decide +kernel
theorem dX6_calm_9 : decode cX6_calm 9 = .ok (.iconst (-1), 1) := by decide +kernel
theorem dX6_calm_10 : decode cX6_calm 10 = .ok (.ireturn, 1) := by decide +kernel
theorem dX6_calm_11 : decode cX6_calm 11 = .ok (.aload_n 0, 1) := by decide +kernel
theorem dX6_calm_12 : decode cX6_calm 12 = .ok (.getfield 10, 3) := by decide +kernel
theorem dX6_calm_15 : decode cX6_calm 15 = .ok (.getfield 56, 3) := by decide +kernel
theorem dX6_calm_18 : decode cX6_calm 18 = .ok (.iconst 2, 1) := by decide +kernel
theorem dX6_calm_19 : decode cX6_calm 19 = .ok (.if_icmp .ge 6, 3) := by decide +kernel
theorem dX6_calm_22 : decode cX6_calm 22 = .ok (.bipush (-2), 2) := by decide +kernel
theorem dX6_calm_24 : decode cX6_calm 24 = .ok (.ireturn, 1) := by decide +kernel
theorem dX6_calm_25 : decode cX6_calm 25 = .ok (.aload_n 0, 1) := by decide +kernel
theorem dX6_calm_26 : decode cX6_calm 26 = .ok (.invokevirtual 188, 3) := by decide +kernel
theorem dX6_calm_29 : decode cX6_calm 29 = .ok (.iload_n 1, 1) := by decide +kernel
theorem dX6_calm_30 : decode cX6_calm 30 = .ok (.ifCond .ne 11, 3) := by decide +kernel
theorem dX6_calm_33 : decode cX6_calm 33 = .ok (.aload_n 0, 1) := by decide +kernel
theorem dX6_calm_34 : decode cX6_calm 34 = .ok (.getfield 48, 3) := by decide +kernel
theorem dX6_calm_37 : decode cX6_calm 37 = .ok (.getfield 203, 3) := by decide +kernel
theorem dX6_calm_40 : decode cX6_calm 40 = .ok (.ireturn, 1) := by decide +kernel
theorem dX6_calm_41 : decode cX6_calm 41 = .ok (.aload_n 0, 1) := by decide +kernel
theorem dX6_calm_42 : decode cX6_calm 42 = .ok (.getfield 48, 3) := by decide +kernel
theorem dX6_calm_45 : decode cX6_calm 45 = .ok (.getfield 203, 3) := by decide +kernel
theorem dX6_calm_48 : decode cX6_calm 48 = .ok (.ifCond .ne 6, 3) := by decide +kernel
theorem dX6_calm_51 : decode cX6_calm 51 = .ok (.bipush (-9), 2) := by decide +kernel
theorem dX6_calm_53 : decode cX6_calm 53 = .ok (.ireturn, 1) := by decide +kernel
theorem dX6_calm_54 : decode cX6_calm 54 = .ok (.iload_n 1, 1) := by decide +kernel
theorem dX6_calm_55 : decode cX6_calm 55 = .ok (.iconst 1, 1) := by decide +kernel
theorem dX6_calm_56 : decode cX6_calm 56 = .ok (.if_icmp .ne 13, 3) := by decide +kernel
theorem dX6_calm_59 : decode cX6_calm 59 = .ok (.aload_n 0, 1) := by decide +kernel
theorem dX6_calm_60 : decode cX6_calm 60 = .ok (.getfield 48, 3) := by decide +kernel
theorem dX6_calm_63 : decode cX6_calm 63 = .ok (.getfield 206, 3) := by decide +kernel
theorem dX6_calm_66 : decode cX6_calm 66 = .ok (.goto 10, 3) := by decide +kernel
theorem dX6_calm_69 : decode cX6_calm 69 = .ok (.aload_n 0, 1) := by decide +kernel
theorem dX6_calm_70 : decode cX6_calm 70 = .ok (.getfield 48, 3) := by decide +kernel
theorem dX6_calm_73 : decode cX6_calm 73 = .ok (.getfield 209, 3) := by decide +kernel
theorem dX6_calm_76 : decode cX6_calm 76 = .ok (.ireturn, 1) := by decide +kernel
set_option maxRecDepth 20000 in
theorem ggX6_calls_X6_isMove : GoodIn wsX6_calls wsX6_isMove := goodIn_r _ [7, 2, 8, 43, 44, 45, 46, 47, 48, 49, 50, 51, 52, 53] (by decide +kernel) (by decide +kernel)
set_option maxRecDepth 20000 in
theorem gX6_calls_X6_isMove : GoodIn wsX6_calls (wsV RX6 107 RX6 yX6_isMove wsX6_isMove) := goodIn_app (goodIn_of _ (by decide +kernel)) ggX6_calls_X6_isMove
set_option maxRecDepth 20000 in
theorem ggX6_calls_X2_pass : GoodIn wsX6_calls wsX2_pass := goodIn_r _ [13, 14, 15, 16, 17, 18, 19, 20, 21, 12, 22, 23, 24, 25, 26, 27, 28, 29, 30, 31, 32, 33, 34, 35, 36, 37, 38, 39, 40, 41, 42, 51, 52, 53, 54] (by decide +kernel) (by decide +kernel)
set_option maxRecDepth 20000 in
theorem gX6_calls_X2_pass : GoodIn wsX6_calls (wsV RX6 110 RX2 yX2_pass wsX2_pass) := goodIn_app (goodIn_of _ (by decide +kernel)) ggX6_calls_X2_pass
theorem dX6_calls_0 : decode cX6_calls 0 = .ok (.aload_n 0, 1) := by decide +kernel
theorem dX6_calls_1 : decode cX6_calls 1 = .ok (.iload_n 1, 1) := by decide +kernel
theorem dX6_calls_2 : decode cX6_calls 2 = .ok (.iload_n 2, 1) := by decide +kernel
theorem dX6_calls_3 : decode cX6_calls 3 = .ok (.invokevirtual 107, 3) := by decide +kernel
theorem dX6_calls_6 : decode cX6_calls 6 = .ok (.ifCond .eq 19, 3) := by decide +kernel
theorem dX6_calls_9 : decode cX6_calls 9 = .ok (.aload_n 0, 1) := by decide +kernel
theorem dX6_calls_10 : decode cX6_calls 10 = .ok (.getfield 34, 3) := by decide +kernel
theorem dX6_calls_13 : decode cX6_calls 13 = .ok (.aload_n 0, 1) := by decide +kernel
theorem dX6_calls_14 : decode cX6_calls 14 = .ok (.getfield 10, 3) := by decide +kernel
theorem dX6_calls_17 : decode cX6_calls 17 = .ok (.iload_n 1, 1) := by decide +kernel
theorem dX6_calls_18 : decode cX6_calls 18 = .ok (.iload_n 2, 1) := by decide +kernel
theorem dX6_calls_19 : decode cX6_calls 19 = .ok (.invokevirtual 110, 3) := by decide +kernel
theorem dX6_calls_22 : decode cX6_calls 22 = .ok (.goto 4, 3) := by decide +kernel
theorem dX6_calls_25 : decode cX6_calls 25 = .ok (.iconst (-1), 1) := by decide +kernel
theorem dX6_calls_26 : decode cX6_calls 26 = .ok (.ireturn, 1) := by decide +kernel
set_option maxRecDepth 20000 in
theorem ggX6_record_X6_dropOldest : GoodIn wsX6_record wsX6_dropOldest := goodIn_r _ [9, 2, 1, 30, 31, 32, 33, 34, 35, 36, 37] (by decide +kernel) (by decide +kernel)
set_option maxRecDepth 20000 in
theorem gX6_record_X6_dropOldest : GoodIn wsX6_record (wsV RX6 212 RX6 yX6_dropOldest wsX6_dropOldest) := goodIn_app (goodIn_of _ (by decide +kernel)) ggX6_record_X6_dropOldest
set_option maxRecDepth 20000 in
theorem ggX6_record_X0_become : GoodIn wsX6_record wsX0_become := goodIn_r _ [14, 15, 16, 17, 18, 19, 20, 13, 21, 22, 23, 24, 25, 26, 27, 28, 29, 38, 39, 40] (by decide +kernel) (by decide +kernel)
set_option maxRecDepth 20000 in
theorem gX6_record_X0_become : GoodIn wsX6_record (wsV RX6 148 RX0 yX0_become wsX0_become) := goodIn_app (goodIn_of _ (by decide +kernel)) ggX6_record_X0_become
theorem dX6_record_0 : decode cX6_record 0 = .ok (.aload_n 0, 1) := by decide +kernel
theorem dX6_record_1 : decode cX6_record 1 = .ok (.getfield 20, 3) := by decide +kernel
theorem dX6_record_4 : decode cX6_record 4 = .ok (.iconst 5, 1) := by decide +kernel
theorem dX6_record_5 : decode cX6_record 5 = .ok (.if_icmp .lt 7, 3) := by decide +kernel
theorem dX6_record_8 : decode cX6_record 8 = .ok (.aload_n 0, 1) := by decide +kernel
theorem dX6_record_9 : decode cX6_record 9 = .ok (.invokevirtual 212, 3) := by decide +kernel
theorem dX6_record_12 : decode cX6_record 12 = .ok (.aload_n 0, 1) := by decide +kernel
theorem dX6_record_13 : decode cX6_record 13 = .ok (.getfield 16, 3) := by decide +kernel
theorem dX6_record_16 : decode cX6_record 16 = .ok (.aload_n 0, 1) := by decide +kernel
theorem dX6_record_17 : decode cX6_record 17 = .ok (.getfield 20, 3) := by decide +kernel
theorem dX6_record_20 : decode cX6_record 20 = .ok (.aaload, 1) := by decide +kernel
theorem dX6_record_21 : decode cX6_record 21 = .ok (.aload_n 0, 1) := by decide +kernel
theorem dX6_record_22 : decode cX6_record 22 = .ok (.getfield 10, 3) := by decide +kernel
theorem dX6_record_25 : decode cX6_record 25 = .ok (.invokevirtual 148, 3) := by decide +kernel
theorem dX6_record_28 : decode cX6_record 28 = .ok (.aload_n 0, 1) := by decide +kernel
theorem dX6_record_29 : decode cX6_record 29 = .ok (.dup, 1) := by decide +kernel
theorem dX6_record_30 : decode cX6_record 30 = .ok (.getfield 20, 3) := by decide +kernel
theorem dX6_record_33 : decode cX6_record 33 = .ok (.iconst 1, 1) := by decide +kernel
theorem dX6_record_34 : decode cX6_record 34 = .ok (.iadd, 1) := by decide +kernel
theorem dX6_record_35 : decode cX6_record 35 = .ok (.putfield 20, 3) := by decide +kernel
theorem dX6_record_38 : decode cX6_record 38 = .ok (.aload_n 0, 1) := by decide +kernel
theorem dX6_record_39 : decode cX6_record 39 = .ok (.iconst 0, 1) := by decide +kernel
theorem dX6_record_40 : decode cX6_record 40 = .ok (.putfield 52, 3) := by decide +kernel
theorem dX6_record_43 : decode cX6_record 43 = .ok (.return_, 1) := by decide +kernel
theorem dX6_dropOldest_0 : decode cX6_dropOldest 0 = .ok (.aload_n 0, 1) := by decide +kernel
theorem dX6_dropOldest_1 : decode cX6_dropOldest 1 = .ok (.getfield 16, 3) := by decide +kernel
theorem dX6_dropOldest_4 : decode cX6_dropOldest 4 = .ok (.iconst 0, 1) := by decide +kernel
theorem dX6_dropOldest_5 : decode cX6_dropOldest 5 = .ok (.aaload, 1) := by decide +kernel
theorem dX6_dropOldest_6 : decode cX6_dropOldest 6 = .ok (.astore_n 1, 1) := by decide +kernel
theorem dX6_dropOldest_7 : decode cX6_dropOldest 7 = .ok (.iconst 1, 1) := by decide +kernel
theorem dX6_dropOldest_8 : decode cX6_dropOldest 8 = .ok (.istore_n 2, 1) := by decide +kernel
theorem dX6_dropOldest_9 : decode cX6_dropOldest 9 = .ok (.iload_n 2, 1) := by decide +kernel
theorem dX6_dropOldest_10 : decode cX6_dropOldest 10 = .ok (.iconst 5, 1) := by decide +kernel
theorem dX6_dropOldest_11 : decode cX6_dropOldest 11 = .ok (.if_icmp .ge 23, 3) := by decide +kernel
theorem dX6_dropOldest_14 : decode cX6_dropOldest 14 = .ok (.aload_n 0, 1) := by decide +kernel
theorem dX6_dropOldest_15 : decode cX6_dropOldest 15 = .ok (.getfield 16, 3) := by decide +kernel
theorem dX6_dropOldest_18 : decode cX6_dropOldest 18 = .ok (.iload_n 2, 1) := by decide +kernel
theorem dX6_dropOldest_19 : decode cX6_dropOldest 19 = .ok (.iconst 1, 1) := by decide +kernel
theorem dX6_dropOldest_20 : decode cX6_dropOldest 20 = .ok (.isub, 1) := by decide +kernel
theorem dX6_dropOldest_21 : decode cX6_dropOldest 21 = .ok (.aload_n 0, 1) := by decide +kernel
theorem dX6_dropOldest_22 : decode cX6_dropOldest 22 = .ok (.getfield 16, 3) := by decide +kernel
theorem dX6_dropOldest_25 : decode cX6_dropOldest 25 = .ok (.iload_n 2, 1) := by decide +kernel
theorem dX6_dropOldest_26 : decode cX6_dropOldest 26 = .ok (.aaload, 1) := by decide +kernel
theorem dX6_dropOldest_27 : decode cX6_dropOldest 27 = .ok (.aastore, 1) := by decide +kernel
theorem dX6_dropOldest_28 : decode cX6_dropOldest 28 = .ok (.iinc 2 1, 3) := by decide +kernel
theorem dX6_dropOldest_31 : decode cX6_dropOldest 31 = .ok (.goto (-22), 3) := by decide +kernel
theorem dX6_dropOldest_34 : decode cX6_dropOldest 34 = .ok (.aload_n 0, 1) := by decide +kernel
theorem dX6_dropOldest_35 : decode cX6_dropOldest 35 = .ok (.getfield 16, 3) := by decide +kernel
theorem dX6_dropOldest_38 : decode cX6_dropOldest 38 = .ok (.iconst 4, 1) := by decide +kernel
theorem dX6_dropOldest_39 : decode cX6_dropOldest 39 = .ok (.aload_n 1, 1) := by decide +kernel
theorem dX6_dropOldest_40 : decode cX6_dropOldest 40 = .ok (.aastore, 1) := by decide +kernel
theorem dX6_dropOldest_41 : decode cX6_dropOldest 41 = .ok (.aload_n 0, 1) := by decide +kernel
theorem dX6_dropOldest_42 : decode cX6_dropOldest 42 = .ok (.iconst 4, 1) := by decide +kernel
theorem dX6_dropOldest_43 : decode cX6_dropOldest 43 = .ok (.putfield 20, 3) := by decide +kernel
theorem dX6_dropOldest_46 : decode cX6_dropOldest 46 = .ok (.return_, 1) := by decide +kernel
set_option maxRecDepth 20000 in
theorem ggX6_searchOnce_X1_search : GoodIn wsX6_searchOnce wsX1_search := goodIn_r _ [8, 9, 10, 11, 12, 13, 7, 14, 15, 16, 17, 18, 19, 20, 21, 22, 23, 24, 25, 26, 27, 28, 29, 30, 31, 32, 33, 34, 35, 36, 37, 38, 39, 40, 41, 42, 43, 44, 45, 46, 47, 48, 49, 50, 51, 52, 53, 54, 55, 56, 57, 58, 59, 60, 61, 62, 63, 64, 65, 66, 67, 68, 69, 70, 71, 72, 73, 74, 75, 76, 77, 78, 79, 80, 81, 82, 83, 84, 85, 86, 87, 88, 89, 98, 99, 100, 101, 102, 103, 104, 105, 106, 107, 108, 109, 110, 111, 112, 113, 114, 115, 116, 117] (by decide +kernel) (by decide +kernel)
set_option maxRecDepth 20000 in
theorem gX6_searchOnce_X1_search : GoodIn wsX6_searchOnce (wsV RX6 215 RX1 yX1_search wsX1_search) := goodIn_app (goodIn_of _ (by decide +kernel)) ggX6_searchOnce_X1_search
theorem dX6_searchOnce_0 : decode cX6_searchOnce 0 = .ok (.aload_n 0, 1) := by decide +kernel
theorem dX6_searchOnce_1 : decode cX6_searchOnce 1 = .ok (.getfield 52, 3) := by decide +kernel
theorem dX6_searchOnce_4 : decode cX6_searchOnce 4 = .ok (.ifCond .ne 19, 3) := by decide +kernel
theorem dX6_searchOnce_7 : decode cX6_searchOnce 7 = .ok (.aload_n 0, 1) := by decide +kernel
theorem dX6_searchOnce_8 : decode cX6_searchOnce 8 = .ok (.getfield 48, 3) := by decide +kernel
theorem dX6_searchOnce_11 : decode cX6_searchOnce 11 = .ok (.aload_n 0, 1) := by decide +kernel
theorem dX6_searchOnce_12 : decode cX6_searchOnce 12 = .ok (.getfield 10, 3) := by decide +kernel
theorem dX6_searchOnce_15 : decode cX6_searchOnce 15 = .ok (.invokevirtual 215, 3) := by decide +kernel
theorem dX6_searchOnce_18 : decode cX6_searchOnce 18 = .ok (.aload_n 0, 1) := by decide +kernel
theorem dX6_searchOnce_19 : decode cX6_searchOnce 19 = .ok (.iconst 1, 1) := by decide +kernel
theorem dX6_searchOnce_20 : decode cX6_searchOnce 20 = .ok (.putfield 52, 3) := by decide +kernel
theorem dX6_searchOnce_23 : decode cX6_searchOnce 23 = .ok (.return_, 1) := by decide +kernel
theorem dX6_isSpan_0 : decode cX6_isSpan 0 = .ok (.iload_n 0, 1) := by decide +kernel
theorem dX6_isSpan_1 : decode cX6_isSpan 1 = .ok (.ifCond .lt 18, 3) := by decide +kernel
theorem dX6_isSpan_4 : decode cX6_isSpan 4 = .ok (.iload_n 0, 1) := by decide +kernel
theorem dX6_isSpan_5 : decode cX6_isSpan 5 = .ok (.iload_n 1, 1) := by decide +kernel
theorem dX6_isSpan_6 : decode cX6_isSpan 6 = .ok (.if_icmp .gt 13, 3) := by decide +kernel
theorem dX6_isSpan_9 : decode cX6_isSpan 9 = .ok (.iload_n 1, 1) := by decide +kernel
theorem dX6_isSpan_10 : decode cX6_isSpan 10 = .ok (.bipush 24, 2) := by decide +kernel
theorem dX6_isSpan_12 : decode cX6_isSpan 12 = .ok (.if_icmp .ge 7, 3) := by decide +kernel
theorem dX6_isSpan_15 : decode cX6_isSpan 15 = .ok (.iconst 1, 1) := by decide +kernel
theorem dX6_isSpan_16 : decode cX6_isSpan 16 = .ok (.goto 4, 3) := by decide +kernel
theorem dX6_isSpan_19 : decode cX6_isSpan 19 = .ok (.iconst 0, 1) := by decide +kernel
theorem dX6_isSpan_20 : decode cX6_isSpan 20 = .ok (.ireturn, 1) := by decide +kernel
set_option maxRecDepth 20000 in
theorem ggX6_isPair_X0_isGuest : GoodIn wsX6_isPair wsX0_isGuest := goodIn_r _ [6, 7, 16, 17, 18] (by decide +kernel) (by decide +kernel)
set_option maxRecDepth 20000 in
theorem gX6_isPair_X0_isGuest : GoodIn wsX6_isPair (wsV RX6 66 RX0 yX0_isGuest wsX0_isGuest) := goodIn_app (goodIn_of _ (by decide +kernel)) ggX6_isPair_X0_isGuest
theorem dX6_isPair_0 : decode cX6_isPair 0 = .ok (.aload_n 0, 1) := by decide +kernel
theorem dX6_isPair_1 : decode cX6_isPair 1 = .ok (.getfield 10, 3) := by decide +kernel
theorem dX6_isPair_4 : decode cX6_isPair 4 = .ok (.iload_n 1, 1) := by decide +kernel
theorem dX6_isPair_5 : decode cX6_isPair 5 = .ok (.invokevirtual 66, 3) := by decide +kernel
theorem dX6_isPair_8 : decode cX6_isPair 8 = .ok (.ifCond .eq 23, 3) := by decide +kernel
theorem dX6_isPair_11 : decode cX6_isPair 11 = .ok (.aload_n 0, 1) := by decide +kernel
theorem dX6_isPair_12 : decode cX6_isPair 12 = .ok (.getfield 10, 3) := by decide +kernel
theorem dX6_isPair_15 : decode cX6_isPair 15 = .ok (.iload_n 2, 1) := by decide +kernel
theorem dX6_isPair_16 : decode cX6_isPair 16 = .ok (.invokevirtual 66, 3) := by decide +kernel
theorem dX6_isPair_19 : decode cX6_isPair 19 = .ok (.ifCond .eq 12, 3) := by decide +kernel
theorem dX6_isPair_22 : decode cX6_isPair 22 = .ok (.iload_n 1, 1) := by decide +kernel
theorem dX6_isPair_23 : decode cX6_isPair 23 = .ok (.iload_n 2, 1) := by decide +kernel
theorem dX6_isPair_24 : decode cX6_isPair 24 = .ok (.if_icmp .eq 7, 3) := by decide +kernel
theorem dX6_isPair_27 : decode cX6_isPair 27 = .ok (.iconst 1, 1) := by decide +kernel
theorem dX6_isPair_28 : decode cX6_isPair 28 = .ok (.goto 4, 3) := by decide +kernel
theorem dX6_isPair_31 : decode cX6_isPair 31 = .ok (.iconst 0, 1) := by decide +kernel
theorem dX6_isPair_32 : decode cX6_isPair 32 = .ok (.ireturn, 1) := by decide +kernel
theorem dX6_isMove_0 : decode cX6_isMove 0 = .ok (.iload_n 1, 1) := by decide +kernel
theorem dX6_isMove_1 : decode cX6_isMove 1 = .ok (.iconst 1, 1) := by decide +kernel
theorem dX6_isMove_2 : decode cX6_isMove 2 = .ok (.if_icmp .lt 31, 3) := by decide +kernel
theorem dX6_isMove_5 : decode cX6_isMove 5 = .ok (.iload_n 1, 1) := by decide +kernel
theorem dX6_isMove_6 : decode cX6_isMove 6 = .ok (.bipush 100, 2) := by decide +kernel
theorem dX6_isMove_8 : decode cX6_isMove 8 = .ok (.if_icmp .gt 25, 3) := by decide +kernel
theorem dX6_isMove_11 : decode cX6_isMove 11 = .ok (.iload_n 2, 1) := by decide +kernel
theorem dX6_isMove_12 : decode cX6_isMove 12 = .ok (.iconst 1, 1) := by decide +kernel
theorem dX6_isMove_13 : decode cX6_isMove 13 = .ok (.if_icmp .lt 20, 3) := by decide +kernel
theorem dX6_isMove_16 : decode cX6_isMove 16 = .ok (.iload_n 2, 1) := by decide +kernel
theorem dX6_isMove_17 : decode cX6_isMove 17 = .ok (.iconst 1, 1) := by decide +kernel
theorem dX6_isMove_18 : decode cX6_isMove 18 = .ok (.aload_n 0, 1) := by decide +kernel
theorem dX6_isMove_19 : decode cX6_isMove 19 = .ok (.getfield 10, 3) := by decide +kernel
theorem dX6_isMove_22 : decode cX6_isMove 22 = .ok (.getfield 56, 3) := by decide +kernel
theorem dX6_isMove_25 : decode cX6_isMove 25 = .ok (.ishl, 1) := by decide +kernel
theorem dX6_isMove_26 : decode cX6_isMove 26 = .ok (.if_icmp .ge 7, 3) := by decide +kernel
theorem dX6_isMove_29 : decode cX6_isMove 29 = .ok (.iconst 1, 1) := by decide +kernel
theorem dX6_isMove_30 : decode cX6_isMove 30 = .ok (.goto 4, 3) := by decide +kernel
theorem dX6_isMove_33 : decode cX6_isMove 33 = .ok (.iconst 0, 1) := by decide +kernel
theorem dX6_isMove_34 : decode cX6_isMove 34 = .ok (.ireturn, 1) := by decide +kernel
set_option maxRecDepth 20000 in
theorem ggX6_lowestNumerator_X6_commonDivisor : GoodIn wsX6_lowestNumerator wsX6_commonDivisor := goodIn_r _ [4, 5] (by decide +kernel) (by decide +kernel)
set_option maxRecDepth 20000 in
theorem gX6_lowestNumerator_X6_commonDivisor : GoodIn wsX6_lowestNumerator (va_wsS RX6 218 yX6_commonDivisor wsX6_commonDivisor) := goodIn_app (goodIn_of _ (by decide +kernel)) ggX6_lowestNumerator_X6_commonDivisor
theorem dX6_lowestNumerator_0 : decode cX6_lowestNumerator 0 = .ok (.iload_n 0, 1) := by decide +kernel
theorem dX6_lowestNumerator_1 : decode cX6_lowestNumerator 1 = .ok (.iload_n 1, 1) := by decide +kernel
theorem dX6_lowestNumerator_2 : decode cX6_lowestNumerator 2 = .ok (.invokestatic 218, 3) := by decide +kernel
theorem dX6_lowestNumerator_5 : decode cX6_lowestNumerator 5 = .ok (.istore_n 2, 1) := by decide +kernel
theorem dX6_lowestNumerator_6 : decode cX6_lowestNumerator 6 = .ok (.iload_n 1, 1) := by decide +kernel
theorem dX6_lowestNumerator_7 : decode cX6_lowestNumerator 7 = .ok (.ifCond .eq 7, 3) := by decide +kernel
theorem dX6_lowestNumerator_10 : decode cX6_lowestNumerator 10 = .ok (.iload_n 2, 1) := by decide +kernel
theorem dX6_lowestNumerator_11 : decode cX6_lowestNumerator 11 = .ok (.ifCond .ne 7, 3) := by decide +kernel
theorem dX6_lowestNumerator_14 : decode cX6_lowestNumerator 14 = .ok (.iconst 0, 1) := by decide +kernel
theorem dX6_lowestNumerator_15 : decode cX6_lowestNumerator 15 = .ok (.goto 6, 3) := by decide +kernel
theorem dX6_lowestNumerator_18 : decode cX6_lowestNumerator 18 = .ok (.iload_n 0, 1) := by decide +kernel
theorem dX6_lowestNumerator_19 : decode cX6_lowestNumerator 19 = .ok (.iload_n 2, 1) := by decide +kernel
theorem dX6_lowestNumerator_20 : decode cX6_lowestNumerator 20 = .ok (.idiv, 1) := by decide +kernel
theorem dX6_lowestNumerator_21 : decode cX6_lowestNumerator 21 = .ok (.ireturn, 1) := by decide +kernel
set_option maxRecDepth 20000 in
theorem ggX6_lowestDenominator_X6_commonDivisor : GoodIn wsX6_lowestDenominator wsX6_commonDivisor := goodIn_r _ [4, 5] (by decide +kernel) (by decide +kernel)
set_option maxRecDepth 20000 in
theorem gX6_lowestDenominator_X6_commonDivisor : GoodIn wsX6_lowestDenominator (va_wsS RX6 218 yX6_commonDivisor wsX6_commonDivisor) := goodIn_app (goodIn_of _ (by decide +kernel)) ggX6_lowestDenominator_X6_commonDivisor
theorem dX6_lowestDenominator_0 : decode cX6_lowestDenominator 0 = .ok (.iload_n 0, 1) := by decide +kernel
theorem dX6_lowestDenominator_1 : decode cX6_lowestDenominator 1 = .ok (.iload_n 1, 1) := by decide +kernel
theorem dX6_lowestDenominator_2 : decode cX6_lowestDenominator 2 = .ok (.invokestatic 218, 3) := by decide +kernel
theorem dX6_lowestDenominator_5 : decode cX6_lowestDenominator 5 = .ok (.istore_n 2, 1) := by decide +kernel
theorem dX6_lowestDenominator_6 : decode cX6_lowestDenominator 6 = .ok (.iload_n 1, 1) := by decide +kernel
theorem dX6_lowestDenominator_7 : decode cX6_lowestDenominator 7 = .ok (.ifCond .eq 7, 3) := by decide +kernel
theorem dX6_lowestDenominator_10 : decode cX6_lowestDenominator 10 = .ok (.iload_n 2, 1) := by decide +kernel
theorem dX6_lowestDenominator_11 : decode cX6_lowestDenominator 11 = .ok (.ifCond .ne 7, 3) := by decide +kernel
theorem dX6_lowestDenominator_14 : decode cX6_lowestDenominator 14 = .ok (.iconst 1, 1) := by decide +kernel
theorem dX6_lowestDenominator_15 : decode cX6_lowestDenominator 15 = .ok (.goto 6, 3) := by decide +kernel
theorem dX6_lowestDenominator_18 : decode cX6_lowestDenominator 18 = .ok (.iload_n 1, 1) := by decide +kernel
theorem dX6_lowestDenominator_19 : decode cX6_lowestDenominator 19 = .ok (.iload_n 2, 1) := by decide +kernel
theorem dX6_lowestDenominator_20 : decode cX6_lowestDenominator 20 = .ok (.idiv, 1) := by decide +kernel
theorem dX6_lowestDenominator_21 : decode cX6_lowestDenominator 21 = .ok (.ireturn, 1) := by decide +kernel
theorem dX6_commonDivisor_0 : decode cX6_commonDivisor 0 = .ok (.iload_n 0, 1) := by decide +kernel
theorem dX6_commonDivisor_1 : decode cX6_commonDivisor 1 = .ok (.istore_n 2, 1) := by decide +kernel
theorem dX6_commonDivisor_2 : decode cX6_commonDivisor 2 = .ok (.iload_n 1, 1) := by decide +kernel
theorem dX6_commonDivisor_3 : decode cX6_commonDivisor 3 = .ok (.istore_n 3, 1) := by decide +kernel
theorem dX6_commonDivisor_4 : decode cX6_commonDivisor 4 = .ok (.iconst 0, 1) := by decide +kernel
theorem dX6_commonDivisor_5 : decode cX6_commonDivisor 5 = .ok (.istore 4, 2) := by decide +kernel
theorem dX6_commonDivisor_7 : decode cX6_commonDivisor 7 = .ok (.iload_n 3, 1) := by decide +kernel
theorem dX6_commonDivisor_8 : decode cX6_commonDivisor 8 = .ok (.ifCond .eq 26, 3) := by decide +kernel
theorem dX6_commonDivisor_11 : decode cX6_commonDivisor 11 = .ok (.iload 4, 2) := by decide +kernel
theorem dX6_commonDivisor_13 : decode cX6_commonDivisor 13 = .ok (.ldc 221, 2) := by decide +kernel
theorem dX6_commonDivisor_15 : decode cX6_commonDivisor 15 = .ok (.if_icmp .ge 19, 3) := by decide +kernel
theorem dX6_commonDivisor_18 : decode cX6_commonDivisor 18 = .ok (.iload_n 2, 1) := by decide +kernel
theorem dX6_commonDivisor_19 : decode cX6_commonDivisor 19 = .ok (.iload_n 3, 1) := by decide +kernel
theorem dX6_commonDivisor_20 : decode cX6_commonDivisor 20 = .ok (.irem, 1) := by decide +kernel
theorem dX6_commonDivisor_21 : decode cX6_commonDivisor 21 = .ok (.istore 5, 2) := by decide +kernel
theorem dX6_commonDivisor_23 : decode cX6_commonDivisor 23 = .ok (.iload_n 3, 1) := by decide +kernel
theorem dX6_commonDivisor_24 : decode cX6_commonDivisor 24 = .ok (.istore_n 2, 1) := by decide +kernel
theorem dX6_commonDivisor_25 : decode cX6_commonDivisor 25 = .ok (.iload 5, 2) := by decide +kernel
theorem dX6_commonDivisor_27 : decode cX6_commonDivisor 27 = .ok (.istore_n 3, 1) := by decide +kernel
theorem dX6_commonDivisor_28 : decode cX6_commonDivisor 28 = .ok (.iinc 4 1, 3) := by decide +kernel
theorem dX6_commonDivisor_31 : decode cX6_commonDivisor 31 = .ok (.goto (-24), 3) := by decide +kernel
theorem dX6_commonDivisor_34 : decode cX6_commonDivisor 34 = .ok (.iload_n 2, 1) := by decide +kernel
theorem dX6_commonDivisor_35 : decode cX6_commonDivisor 35 = .ok (.ireturn, 1) := by decide +kernel
theorem dJ9_abs_0f7a4_0 : decode cJ9_abs_0f7a4 0 = .ok (.iload_n 0, 1) := by decide +kernel
theorem dJ9_abs_0f7a4_1 : decode cJ9_abs_0f7a4 1 = .ok (.ifCond .ge 8, 3) := by decide +kernel
theorem dJ9_abs_0f7a4_4 : decode cJ9_abs_0f7a4 4 = .ok (.iload_n 0, 1) := by decide +kernel
theorem dJ9_abs_0f7a4_5 : decode cJ9_abs_0f7a4 5 = .ok (.ineg, 1) := by decide +kernel
theorem dJ9_abs_0f7a4_6 : decode cJ9_abs_0f7a4 6 = .ok (.goto 4, 3) := by decide +kernel
theorem dJ9_abs_0f7a4_9 : decode cJ9_abs_0f7a4 9 = .ok (.iload_n 0, 1) := by decide +kernel
theorem dJ9_abs_0f7a4_10 : decode cJ9_abs_0f7a4 10 = .ok (.ireturn, 1) := by decide +kernel
theorem dJ9_max_7cf53_0 : decode cJ9_max_7cf53 0 = .ok (.iload_n 0, 1) := by decide +kernel
theorem dJ9_max_7cf53_1 : decode cJ9_max_7cf53 1 = .ok (.iload_n 1, 1) := by decide +kernel
theorem dJ9_max_7cf53_2 : decode cJ9_max_7cf53 2 = .ok (.if_icmp .lt 7, 3) := by decide +kernel
theorem dJ9_max_7cf53_5 : decode cJ9_max_7cf53 5 = .ok (.iload_n 0, 1) := by decide +kernel
theorem dJ9_max_7cf53_6 : decode cJ9_max_7cf53 6 = .ok (.goto 4, 3) := by decide +kernel
theorem dJ9_max_7cf53_9 : decode cJ9_max_7cf53 9 = .ok (.iload_n 1, 1) := by decide +kernel
theorem dJ9_max_7cf53_10 : decode cJ9_max_7cf53 10 = .ok (.ireturn, 1) := by decide +kernel
theorem dJ9_min_7cf53_0 : decode cJ9_min_7cf53 0 = .ok (.iload_n 0, 1) := by decide +kernel
theorem dJ9_min_7cf53_1 : decode cJ9_min_7cf53 1 = .ok (.iload_n 1, 1) := by decide +kernel
theorem dJ9_min_7cf53_2 : decode cJ9_min_7cf53 2 = .ok (.if_icmp .gt 7, 3) := by decide +kernel
theorem dJ9_min_7cf53_5 : decode cJ9_min_7cf53 5 = .ok (.iload_n 0, 1) := by decide +kernel
theorem dJ9_min_7cf53_6 : decode cJ9_min_7cf53 6 = .ok (.goto 4, 3) := by decide +kernel
theorem dJ9_min_7cf53_9 : decode cJ9_min_7cf53 9 = .ok (.iload_n 1, 1) := by decide +kernel
theorem dJ9_min_7cf53_10 : decode cJ9_min_7cf53 10 = .ok (.ireturn, 1) := by decide +kernel
theorem dL_cell_0 : decode cL_cell 0 = .ok (.iload_n 1, 1) := by decide +kernel
theorem dL_cell_1 : decode cL_cell 1 = .ok (.aload_n 0, 1) := by decide +kernel
theorem dL_cell_2 : decode cL_cell 2 = .ok (.arraylength, 1) := by decide +kernel
theorem dL_cell_3 : decode cL_cell 3 = .ok (.if_icmp .ge 9, 3) := by decide +kernel
theorem dL_cell_6 : decode cL_cell 6 = .ok (.aload_n 0, 1) := by decide +kernel
theorem dL_cell_7 : decode cL_cell 7 = .ok (.iload_n 1, 1) := by decide +kernel
theorem dL_cell_8 : decode cL_cell 8 = .ok (.iaload, 1) := by decide +kernel
theorem dL_cell_9 : decode cL_cell 9 = .ok (.goto 15, 3) := by decide +kernel
theorem dL_cell_12 : decode cL_cell 12 = .ok (.sipush 7919, 3) := by decide +kernel
theorem dL_cell_15 : decode cL_cell 15 = .ok (.iload_n 1, 1) := by decide +kernel
theorem dL_cell_16 : decode cL_cell 16 = .ok (.iconst 3, 1) := by decide +kernel
theorem dL_cell_17 : decode cL_cell 17 = .ok (.iadd, 1) := by decide +kernel
theorem dL_cell_18 : decode cL_cell 18 = .ok (.imul, 1) := by decide +kernel
theorem dL_cell_19 : decode cL_cell 19 = .ok (.iload_n 1, 1) := by decide +kernel
theorem dL_cell_20 : decode cL_cell 20 = .ok (.bipush 11, 2) := by decide +kernel
theorem dL_cell_22 : decode cL_cell 22 = .ok (.iadd, 1) := by decide +kernel
theorem dL_cell_23 : decode cL_cell 23 = .ok (.imul, 1) := by decide +kernel
theorem dL_cell_24 : decode cL_cell 24 = .ok (.ireturn, 1) := by decide +kernel
theorem dL_low_0 : decode cL_low 0 = .ok (.iload_n 0, 1) := by decide +kernel
theorem dL_low_1 : decode cL_low 1 = .ok (.ldc 7, 2) := by decide +kernel
theorem dL_low_3 : decode cL_low 3 = .ok (.iand, 1) := by decide +kernel
theorem dL_low_4 : decode cL_low 4 = .ok (.iload_n 1, 1) := by decide +kernel
theorem dL_low_5 : decode cL_low 5 = .ok (.irem, 1) := by decide +kernel
theorem dL_low_6 : decode cL_low 6 = .ok (.ireturn, 1) := by decide +kernel
set_option maxRecDepth 20000 in
theorem ggL_worth_X6_crumb : GoodIn wsL_worth wsX6_crumb := goodIn_r _ [5, 6, 7, 19, 20, 21, 22, 23, 24, 25, 26, 27, 28, 29] (by decide +kernel) (by decide +kernel)
set_option maxRecDepth 20000 in
theorem gL_worth_X6_crumb : GoodIn wsL_worth (wsV RL 8 RX6 yX6_crumb wsX6_crumb) := goodIn_app (goodIn_of _ (by decide +kernel)) ggL_worth_X6_crumb
set_option maxRecDepth 20000 in
theorem ggL_worth_X6_value : GoodIn wsL_worth wsX6_value := goodIn_r _ [11, 6, 12, 13, 14, 15, 16, 17, 18, 19, 20, 21, 22, 23, 24, 25, 26, 27, 28, 29] (by decide +kernel) (by decide +kernel)
set_option maxRecDepth 20000 in
theorem gL_worth_X6_value : GoodIn wsL_worth (wsV RL 14 RX6 yX6_value wsX6_value) := goodIn_app (goodIn_of _ (by decide +kernel)) ggL_worth_X6_value
theorem dL_worth_0 : decode cL_worth 0 = .ok (.iconst 0, 1) := by decide +kernel
theorem dL_worth_1 : decode cL_worth 1 = .ok (.istore_n 3, 1) := by decide +kernel
theorem dL_worth_2 : decode cL_worth 2 = .ok (.iconst 0, 1) := by decide +kernel
theorem dL_worth_3 : decode cL_worth 3 = .ok (.istore 4, 2) := by decide +kernel
theorem dL_worth_5 : decode cL_worth 5 = .ok (.iload 4, 2) := by decide +kernel
theorem dL_worth_7 : decode cL_worth 7 = .ok (.bipush 24, 2) := by decide +kernel
theorem dL_worth_9 : decode cL_worth 9 = .ok (.if_icmp .ge 33, 3) := by decide +kernel
theorem dL_worth_12 : decode cL_worth 12 = .ok (.iload_n 3, 1) := by decide +kernel
theorem dL_worth_13 : decode cL_worth 13 = .ok (.aload_n 0, 1) := by decide +kernel
theorem dL_worth_14 : decode cL_worth 14 = .ok (.iload 4, 2) := by decide +kernel
theorem dL_worth_16 : decode cL_worth 16 = .ok (.invokevirtual 8, 3) := by decide +kernel
theorem dL_worth_19 : decode cL_worth 19 = .ok (.iload_n 2, 1) := by decide +kernel
theorem dL_worth_20 : decode cL_worth 20 = .ok (.if_icmp .ne 13, 3) := by decide +kernel
theorem dL_worth_23 : decode cL_worth 23 = .ok (.aload_n 0, 1) := by decide +kernel
theorem dL_worth_24 : decode cL_worth 24 = .ok (.iload_n 1, 1) := by decide +kernel
theorem dL_worth_25 : decode cL_worth 25 = .ok (.iload 4, 2) := by decide +kernel
theorem dL_worth_27 : decode cL_worth 27 = .ok (.invokevirtual 14, 3) := by decide +kernel
theorem dL_worth_30 : decode cL_worth 30 = .ok (.goto 4, 3) := by decide +kernel
theorem dL_worth_33 : decode cL_worth 33 = .ok (.iconst 0, 1) := by decide +kernel
theorem dL_worth_34 : decode cL_worth 34 = .ok (.iadd, 1) := by decide +kernel
theorem dL_worth_35 : decode cL_worth 35 = .ok (.istore_n 3, 1) := by decide +kernel
theorem dL_worth_36 : decode cL_worth 36 = .ok (.iinc 4 1, 3) := by decide +kernel
theorem dL_worth_39 : decode cL_worth 39 = .ok (.goto (-34), 3) := by decide +kernel
theorem dL_worth_42 : decode cL_worth 42 = .ok (.iload_n 3, 1) := by decide +kernel
theorem dL_worth_43 : decode cL_worth 43 = .ok (.ireturn, 1) := by decide +kernel
set_option maxRecDepth 20000 in
theorem ggL_rules_X6_count : GoodIn wsL_rules wsX6_count := goodIn_r _ [5, 6, 7, 8, 9, 10, 11, 12, 13, 14, 15, 16, 17, 18, 19, 20, 21, 22, 23, 24, 25, 26, 27, 28, 29, 30, 31, 32, 33, 34, 35, 36, 37, 38, 39, 40, 41, 42, 43, 44, 45, 46, 47, 48, 49, 50, 51, 52, 53, 54, 155, 156, 157, 158, 159, 160, 161, 162, 163, 164, 165, 166, 167, 168, 169, 170] (by decide +kernel) (by decide +kernel)
set_option maxRecDepth 20000 in
theorem gL_rules_X6_count : GoodIn wsL_rules (wsV RL 18 RX6 yX6_count wsX6_count) := goodIn_app (goodIn_of _ (by decide +kernel)) ggL_rules_X6_count
set_option maxRecDepth 20000 in
theorem ggL_rules_X6_value : GoodIn wsL_rules wsX6_value := goodIn_r _ [58, 6, 59, 60, 61, 62, 14, 63, 21, 155, 156, 157, 158, 159, 160, 161, 162, 163, 164, 165] (by decide +kernel) (by decide +kernel)
set_option maxRecDepth 20000 in
theorem gL_rules_X6_value : GoodIn wsL_rules (wsV RL 14 RX6 yX6_value wsX6_value) := goodIn_app (goodIn_of _ (by decide +kernel)) ggL_rules_X6_value
set_option maxRecDepth 20000 in
theorem ggL_rules_X6_crumb : GoodIn wsL_rules wsX6_crumb := goodIn_r _ [67, 6, 68, 155, 156, 157, 158, 159, 160, 161, 162, 163, 164, 165] (by decide +kernel) (by decide +kernel)
set_option maxRecDepth 20000 in
theorem gL_rules_X6_crumb : GoodIn wsL_rules (wsV RL 8 RX6 yX6_crumb wsX6_crumb) := goodIn_app (goodIn_of _ (by decide +kernel)) ggL_rules_X6_crumb
set_option maxRecDepth 20000 in
theorem ggL_rules_L_worth : GoodIn wsL_rules wsL_worth := goodIn_r _ [72, 64, 65, 66, 4, 67, 6, 68, 55, 56, 57, 58, 59, 60, 61, 62, 14, 63, 21, 155, 156, 157, 158, 159, 160, 161, 162, 163, 164, 165] (by decide +kernel) (by decide +kernel)
set_option maxRecDepth 20000 in
theorem gL_rules_L_worth : GoodIn wsL_rules (va_wsS RL 21 yL_worth wsL_worth) := goodIn_app (goodIn_of _ (by decide +kernel)) ggL_rules_L_worth
set_option maxRecDepth 20000 in
theorem ggL_rules_X6_guest : GoodIn wsL_rules wsX6_guest := goodIn_r _ [76, 6, 60, 61, 62, 14, 63, 21, 77, 48, 49, 50, 51, 52, 53, 54, 38, 78, 31, 32, 33, 34, 35, 36, 37, 16, 11, 12, 13, 15, 79, 80, 4, 81, 82, 83, 84, 85, 86, 87, 88, 89, 90, 91, 92, 155, 156, 157, 158, 159, 160, 161, 162, 163, 164, 165] (by decide +kernel) (by decide +kernel)
set_option maxRecDepth 20000 in
theorem gL_rules_X6_guest : GoodIn wsL_rules (wsV RL 27 RX6 yX6_guest wsX6_guest) := goodIn_app (goodIn_of _ (by decide +kernel)) ggL_rules_X6_guest
set_option maxRecDepth 20000 in
theorem ggL_rules_X6_envy : GoodIn wsL_rules wsX6_envy := goodIn_r _ [96, 6, 97, 98, 99, 4, 100, 60, 61, 62, 14, 63, 21, 101, 23, 24, 25, 26, 27, 28, 29, 30, 31, 32, 33, 34, 35, 36, 37, 16, 38, 155, 156, 157, 158, 159, 160, 161, 162, 163, 164, 165] (by decide +kernel) (by decide +kernel)
set_option maxRecDepth 20000 in
theorem gL_rules_X6_envy : GoodIn wsL_rules (wsV RL 30 RX6 yX6_envy wsX6_envy) := goodIn_app (goodIn_of _ (by decide +kernel)) ggL_rules_X6_envy
set_option maxRecDepth 20000 in
theorem ggL_rules_L_ring : GoodIn wsL_rules wsL_ring := goodIn_r _ [104, 105, 106, 107, 4, 108, 109, 6, 110, 111, 112, 113, 114, 115, 116, 117, 118, 119, 120, 121, 122, 123, 124, 125, 23, 24, 14, 25, 26, 27, 28, 29, 30, 31, 32, 33, 34, 35, 36, 37, 16, 38, 126, 127, 128, 129, 130, 131, 132, 133, 134, 135, 136, 137, 138, 139, 140, 141, 142, 143, 144, 145, 146, 147, 148, 149, 150, 151, 152, 153, 154, 1, 2, 3, 5, 7, 8, 9, 10, 11, 12, 13, 15, 17, 18, 19, 20, 21, 22, 39, 40, 41, 42, 43, 44, 45, 46, 47, 48, 49, 50, 51, 52, 53, 54, 93, 94, 95, 96, 97, 98, 99, 100, 60, 61, 62, 63, 101, 155, 156, 157, 158, 159, 160, 161, 162, 171, 172, 173, 174, 175, 163, 164, 165, 166, 167, 168, 169, 170] (by decide +kernel) (by decide +kernel)
set_option maxRecDepth 20000 in
theorem gL_rules_L_ring : GoodIn wsL_rules (va_wsS RL 33 yL_ring wsL_ring) := goodIn_app (goodIn_of _ (by decide +kernel)) ggL_rules_L_ring
theorem dL_rules_0 : decode cL_rules 0 = .ok (.aload_n 0, 1) := by decide +kernel
theorem dL_rules_1 : decode cL_rules 1 = .ok (.iconst 0, 1) := by decide +kernel
theorem dL_rules_2 : decode cL_rules 2 = .ok (.invokevirtual 18, 3) := by decide +kernel
theorem dL_rules_5 : decode cL_rules 5 = .ok (.istore_n 1, 1) := by decide +kernel
theorem dL_rules_6 : decode cL_rules 6 = .ok (.aload_n 0, 1) := by decide +kernel
theorem dL_rules_7 : decode cL_rules 7 = .ok (.iconst 1, 1) := by decide +kernel
theorem dL_rules_8 : decode cL_rules 8 = .ok (.invokevirtual 18, 3) := by decide +kernel
theorem dL_rules_11 : decode cL_rules 11 = .ok (.istore_n 2, 1) := by decide +kernel
theorem dL_rules_12 : decode cL_rules 12 = .ok (.iconst 0, 1) := by decide +kernel
theorem dL_rules_13 : decode cL_rules 13 = .ok (.istore_n 3, 1) := by decide +kernel
theorem dL_rules_14 : decode cL_rules 14 = .ok (.iconst 0, 1) := by decide +kernel
theorem dL_rules_15 : decode cL_rules 15 = .ok (.istore 4, 2) := by decide +kernel
theorem dL_rules_17 : decode cL_rules 17 = .ok (.iconst 0, 1) := by decide +kernel
theorem dL_rules_18 : decode cL_rules 18 = .ok (.istore 5, 2) := by decide +kernel
theorem dL_rules_20 : decode cL_rules 20 = .ok (.iconst 0, 1) := by decide +kernel
theorem dL_rules_21 : decode cL_rules 21 = .ok (.istore 6, 2) := by decide +kernel
theorem dL_rules_23 : decode cL_rules 23 = .ok (.iload 6, 2) := by decide +kernel
theorem dL_rules_25 : decode cL_rules 25 = .ok (.iload_n 1, 1) := by decide +kernel
theorem dL_rules_26 : decode cL_rules 26 = .ok (.if_icmp .ge 414, 3) := by decide +kernel
theorem dL_rules_29 : decode cL_rules 29 = .ok (.iconst 0, 1) := by decide +kernel
theorem dL_rules_30 : decode cL_rules 30 = .ok (.istore 7, 2) := by decide +kernel
theorem dL_rules_32 : decode cL_rules 32 = .ok (.iconst 0, 1) := by decide +kernel
theorem dL_rules_33 : decode cL_rules 33 = .ok (.istore 8, 2) := by decide +kernel
theorem dL_rules_35 : decode cL_rules 35 = .ok (.iconst 0, 1) := by decide +kernel
theorem dL_rules_36 : decode cL_rules 36 = .ok (.istore 9, 2) := by decide +kernel
theorem dL_rules_38 : decode cL_rules 38 = .ok (.iconst 0, 1) := by decide +kernel
theorem dL_rules_39 : decode cL_rules 39 = .ok (.istore 10, 2) := by decide +kernel
theorem dL_rules_41 : decode cL_rules 41 = .ok (.iload 10, 2) := by decide +kernel
theorem dL_rules_43 : decode cL_rules 43 = .ok (.bipush 24, 2) := by decide +kernel
theorem dL_rules_45 : decode cL_rules 45 = .ok (.if_icmp .ge 82, 3) := by decide +kernel
theorem dL_rules_48 : decode cL_rules 48 = .ok (.iload 7, 2) := by decide +kernel
theorem dL_rules_50 : decode cL_rules 50 = .ok (.aload_n 0, 1) := by decide +kernel
theorem dL_rules_51 : decode cL_rules 51 = .ok (.iload 6, 2) := by decide +kernel
theorem dL_rules_53 : decode cL_rules 53 = .ok (.iload 10, 2) := by decide +kernel
theorem dL_rules_55 : decode cL_rules 55 = .ok (.invokevirtual 14, 3) := by decide +kernel
theorem dL_rules_58 : decode cL_rules 58 = .ok (.iadd, 1) := by decide +kernel
theorem dL_rules_59 : decode cL_rules 59 = .ok (.istore 7, 2) := by decide +kernel
theorem dL_rules_61 : decode cL_rules 61 = .ok (.iload 8, 2) := by decide +kernel
theorem dL_rules_63 : decode cL_rules 63 = .ok (.aload_n 0, 1) := by decide +kernel
theorem dL_rules_64 : decode cL_rules 64 = .ok (.iload 10, 2) := by decide +kernel
theorem dL_rules_66 : decode cL_rules 66 = .ok (.invokevirtual 8, 3) := by decide +kernel
theorem dL_rules_69 : decode cL_rules 69 = .ok (.iload 6, 2) := by decide +kernel
theorem dL_rules_71 : decode cL_rules 71 = .ok (.if_icmp .ne 7, 3) := by decide +kernel
theorem dL_rules_74 : decode cL_rules 74 = .ok (.iconst 1, 1) := by decide +kernel
theorem dL_rules_75 : decode cL_rules 75 = .ok (.goto 4, 3) := by decide +kernel
theorem dL_rules_78 : decode cL_rules 78 = .ok (.iconst 0, 1) := by decide +kernel
theorem dL_rules_79 : decode cL_rules 79 = .ok (.iadd, 1) := by decide +kernel
theorem dL_rules_80 : decode cL_rules 80 = .ok (.istore 8, 2) := by decide +kernel
theorem dL_rules_82 : decode cL_rules 82 = .ok (.iload 9, 2) := by decide +kernel
theorem dL_rules_84 : decode cL_rules 84 = .ok (.aload_n 0, 1) := by decide +kernel
theorem dL_rules_85 : decode cL_rules 85 = .ok (.iload 10, 2) := by decide +kernel
theorem dL_rules_87 : decode cL_rules 87 = .ok (.invokevirtual 8, 3) := by decide +kernel
theorem dL_rules_90 : decode cL_rules 90 = .ok (.iload 6, 2) := by decide +kernel
theorem dL_rules_92 : decode cL_rules 92 = .ok (.if_icmp .ne 25, 3) := by decide +kernel
theorem dL_rules_95 : decode cL_rules 95 = .ok (.iload 10, 2) := by decide +kernel
theorem dL_rules_97 : decode cL_rules 97 = .ok (.ifCond .eq 16, 3) := by decide +kernel
theorem dL_rules_100 : decode cL_rules 100 = .ok (.aload_n 0, 1) := by decide +kernel
theorem dL_rules_101 : decode cL_rules 101 = .ok (.iload 10, 2) := by decide +kernel
theorem dL_rules_103 : decode cL_rules 103 = .ok (.iconst 1, 1) := by decide +kernel
theorem dL_rules_104 : decode cL_rules 104 = .ok (.isub, 1) := by decide +kernel
theorem dL_rules_105 : decode cL_rules 105 = .ok (.invokevirtual 8, 3) := by decide +kernel
theorem dL_rules_108 : decode cL_rules 108 = .ok (.iload 6, 2) := by decide +kernel
theorem dL_rules_110 : decode cL_rules 110 = .ok (.if_icmp .eq 7, 3) := by decide +kernel
theorem dL_rules_113 : decode cL_rules 113 = .ok (.iconst 1, 1) := by decide +kernel
theorem dL_rules_114 : decode cL_rules 114 = .ok (.goto 4, 3) := by decide +kernel
theorem dL_rules_117 : decode cL_rules 117 = .ok (.iconst 0, 1) := by decide +kernel
theorem dL_rules_118 : decode cL_rules 118 = .ok (.iadd, 1) := by decide +kernel
theorem dL_rules_119 : decode cL_rules 119 = .ok (.istore 9, 2) := by decide +kernel
theorem dL_rules_121 : decode cL_rules 121 = .ok (.iinc 10 1, 3) := by decide +kernel
theorem dL_rules_124 : decode cL_rules 124 = .ok (.goto (-83), 3) := by decide +kernel
theorem dL_rules_127 : decode cL_rules 127 = .ok (.aload_n 0, 1) := by decide +kernel
theorem dL_rules_128 : decode cL_rules 128 = .ok (.iload 6, 2) := by decide +kernel
theorem dL_rules_130 : decode cL_rules 130 = .ok (.iload 6, 2) := by decide +kernel
theorem dL_rules_132 : decode cL_rules 132 = .ok (.invokestatic 21, 3) := by decide +kernel
theorem dL_rules_135 : decode cL_rules 135 = .ok (.istore 10, 2) := by decide +kernel
theorem dL_rules_137 : decode cL_rules 137 = .ok (.aload_n 0, 1) := by decide +kernel
theorem dL_rules_138 : decode cL_rules 138 = .ok (.iload 6, 2) := by decide +kernel
theorem dL_rules_140 : decode cL_rules 140 = .ok (.iconst 0, 1) := by decide +kernel
theorem dL_rules_141 : decode cL_rules 141 = .ok (.invokevirtual 27, 3) := by decide +kernel
theorem dL_rules_144 : decode cL_rules 144 = .ok (.iload 7, 2) := by decide +kernel
theorem dL_rules_146 : decode cL_rules 146 = .ok (.if_icmp .ne 58, 3) := by decide +kernel
theorem dL_rules_149 : decode cL_rules 149 = .ok (.aload_n 0, 1) := by decide +kernel
theorem dL_rules_150 : decode cL_rules 150 = .ok (.iload 6, 2) := by decide +kernel
theorem dL_rules_152 : decode cL_rules 152 = .ok (.iconst 1, 1) := by decide +kernel
theorem dL_rules_153 : decode cL_rules 153 = .ok (.invokevirtual 27, 3) := by decide +kernel
theorem dL_rules_156 : decode cL_rules 156 = .ok (.iload 10, 2) := by decide +kernel
theorem dL_rules_158 : decode cL_rules 158 = .ok (.if_icmp .ne 46, 3) := by decide +kernel
theorem dL_rules_161 : decode cL_rules 161 = .ok (.aload_n 0, 1) := by decide +kernel
theorem dL_rules_162 : decode cL_rules 162 = .ok (.iload 6, 2) := by decide +kernel
theorem dL_rules_164 : decode cL_rules 164 = .ok (.iconst 2, 1) := by decide +kernel
theorem dL_rules_165 : decode cL_rules 165 = .ok (.invokevirtual 27, 3) := by decide +kernel
theorem dL_rules_168 : decode cL_rules 168 = .ok (.iload 8, 2) := by decide +kernel
theorem dL_rules_170 : decode cL_rules 170 = .ok (.if_icmp .ne 34, 3) := by decide +kernel
theorem dL_rules_173 : decode cL_rules 173 = .ok (.aload_n 0, 1) := by decide +kernel
theorem dL_rules_174 : decode cL_rules 174 = .ok (.iload 6, 2) := by decide +kernel
theorem dL_rules_176 : decode cL_rules 176 = .ok (.iconst 5, 1) := by decide +kernel
theorem dL_rules_177 : decode cL_rules 177 = .ok (.invokevirtual 27, 3) := by decide +kernel
theorem dL_rules_180 : decode cL_rules 180 = .ok (.iload 9, 2) := by decide +kernel
theorem dL_rules_182 : decode cL_rules 182 = .ok (.if_icmp .ne 22, 3) := by decide +kernel
theorem dL_rules_185 : decode cL_rules 185 = .ok (.aload_n 0, 1) := by decide +kernel
theorem dL_rules_186 : decode cL_rules 186 = .ok (.iload 6, 2) := by decide +kernel
theorem dL_rules_188 : decode cL_rules 188 = .ok (.bipush 6, 2) := by decide +kernel
theorem dL_rules_190 : decode cL_rules 190 = .ok (.invokevirtual 27, 3) := by decide +kernel
theorem dL_rules_193 : decode cL_rules 193 = .ok (.aload_n 0, 1) := by decide +kernel
theorem dL_rules_194 : decode cL_rules 194 = .ok (.iload 6, 2) := by decide +kernel
theorem dL_rules_196 : decode cL_rules 196 = .ok (.bipush (-9), 2) := by decide +kernel
theorem dL_rules_198 : decode cL_rules 198 = .ok (.invokestatic 21, 3) := by decide +kernel
theorem dL_rules_201 : decode cL_rules 201 = .ok (.if_icmp .eq 5, 3) := by decide +kernel
theorem dL_rules_204 : decode cL_rules 204 = .ok (.iconst 0, 1) := by decide +kernel
theorem dL_rules_205 : decode cL_rules 205 = .ok (.ireturn, 1) := by decide +kernel
theorem dL_rules_206 : decode cL_rules 206 = .ok (.aload_n 0, 1) := by decide +kernel
theorem dL_rules_207 : decode cL_rules 207 = .ok (.iload 6, 2) := by decide +kernel
theorem dL_rules_209 : decode cL_rules 209 = .ok (.iconst 3, 1) := by decide +kernel
theorem dL_rules_210 : decode cL_rules 210 = .ok (.invokevirtual 27, 3) := by decide +kernel
theorem dL_rules_213 : decode cL_rules 213 = .ok (.istore 11, 2) := by decide +kernel
theorem dL_rules_215 : decode cL_rules 215 = .ok (.aload_n 0, 1) := by decide +kernel
theorem dL_rules_216 : decode cL_rules 216 = .ok (.iload 6, 2) := by decide +kernel
theorem dL_rules_218 : decode cL_rules 218 = .ok (.iconst 4, 1) := by decide +kernel
theorem dL_rules_219 : decode cL_rules 219 = .ok (.invokevirtual 27, 3) := by decide +kernel
theorem dL_rules_222 : decode cL_rules 222 = .ok (.istore 12, 2) := by decide +kernel
theorem dL_rules_224 : decode cL_rules 224 = .ok (.iload 12, 2) := by decide +kernel
theorem dL_rules_226 : decode cL_rules 226 = .ok (.iconst 1, 1) := by decide +kernel
theorem dL_rules_227 : decode cL_rules 227 = .ok (.if_icmp .lt 43, 3) := by decide +kernel
theorem dL_rules_230 : decode cL_rules 230 = .ok (.iload 11, 2) := by decide +kernel
theorem dL_rules_232 : decode cL_rules 232 = .ok (.iload 7, 2) := by decide +kernel
theorem dL_rules_234 : decode cL_rules 234 = .ok (.imul, 1) := by decide +kernel
theorem dL_rules_235 : decode cL_rules 235 = .ok (.iload 10, 2) := by decide +kernel
theorem dL_rules_237 : decode cL_rules 237 = .ok (.iload 12, 2) := by decide +kernel
theorem dL_rules_239 : decode cL_rules 239 = .ok (.imul, 1) := by decide +kernel
theorem dL_rules_240 : decode cL_rules 240 = .ok (.if_icmp .ne 30, 3) := by decide +kernel
theorem dL_rules_243 : decode cL_rules 243 = .ok (.iload 10, 2) := by decide +kernel
theorem dL_rules_245 : decode cL_rules 245 = .ok (.ifCond .ne 14, 3) := by decide +kernel
theorem dL_rules_248 : decode cL_rules 248 = .ok (.iload 11, 2) := by decide +kernel
theorem dL_rules_250 : decode cL_rules 250 = .ok (.ifCond .ne 20, 3) := by decide +kernel
theorem dL_rules_253 : decode cL_rules 253 = .ok (.iload 12, 2) := by decide +kernel
theorem dL_rules_255 : decode cL_rules 255 = .ok (.iconst 1, 1) := by decide +kernel
theorem dL_rules_256 : decode cL_rules 256 = .ok (.if_icmp .ne 14, 3) := by decide +kernel
theorem dL_rules_259 : decode cL_rules 259 = .ok (.iload 7, 2) := by decide +kernel
theorem dL_rules_261 : decode cL_rules 261 = .ok (.ifCond .ne 11, 3) := by decide +kernel
theorem dL_rules_264 : decode cL_rules 264 = .ok (.iload 12, 2) := by decide +kernel
theorem dL_rules_266 : decode cL_rules 266 = .ok (.iconst 1, 1) := by decide +kernel
theorem dL_rules_267 : decode cL_rules 267 = .ok (.if_icmp .eq 5, 3) := by decide +kernel
theorem dL_rules_270 : decode cL_rules 270 = .ok (.iconst 0, 1) := by decide +kernel
theorem dL_rules_271 : decode cL_rules 271 = .ok (.ireturn, 1) := by decide +kernel
theorem dL_rules_272 : decode cL_rules 272 = .ok (.iconst 2, 1) := by decide +kernel
theorem dL_rules_273 : decode cL_rules 273 = .ok (.istore 13, 2) := by decide +kernel
theorem dL_rules_275 : decode cL_rules 275 = .ok (.iload 13, 2) := by decide +kernel
theorem dL_rules_277 : decode cL_rules 277 = .ok (.iload 11, 2) := by decide +kernel
theorem dL_rules_279 : decode cL_rules 279 = .ok (.if_icmp .gt 27, 3) := by decide +kernel
theorem dL_rules_282 : decode cL_rules 282 = .ok (.iload 11, 2) := by decide +kernel
theorem dL_rules_284 : decode cL_rules 284 = .ok (.iload 13, 2) := by decide +kernel
theorem dL_rules_286 : decode cL_rules 286 = .ok (.irem, 1) := by decide +kernel
theorem dL_rules_287 : decode cL_rules 287 = .ok (.ifCond .ne 13, 3) := by decide +kernel
theorem dL_rules_290 : decode cL_rules 290 = .ok (.iload 12, 2) := by decide +kernel
theorem dL_rules_292 : decode cL_rules 292 = .ok (.iload 13, 2) := by decide +kernel
theorem dL_rules_294 : decode cL_rules 294 = .ok (.irem, 1) := by decide +kernel
theorem dL_rules_295 : decode cL_rules 295 = .ok (.ifCond .ne 5, 3) := by decide +kernel
theorem dL_rules_298 : decode cL_rules 298 = .ok (.iconst 0, 1) := by decide +kernel
theorem dL_rules_299 : decode cL_rules 299 = .ok (.ireturn, 1) := by decide +kernel
theorem dL_rules_300 : decode cL_rules 300 = .ok (.iinc 13 1, 3) := by decide +kernel
theorem dL_rules_303 : decode cL_rules 303 = .ok (.goto (-28), 3) := by decide +kernel
theorem dL_rules_306 : decode cL_rules 306 = .ok (.iconst 0, 1) := by decide +kernel
theorem dL_rules_307 : decode cL_rules 307 = .ok (.istore 13, 2) := by decide +kernel
theorem dL_rules_309 : decode cL_rules 309 = .ok (.iload 13, 2) := by decide +kernel
theorem dL_rules_311 : decode cL_rules 311 = .ok (.iload_n 1, 1) := by decide +kernel
theorem dL_rules_312 : decode cL_rules 312 = .ok (.if_icmp .ge 93, 3) := by decide +kernel
theorem dL_rules_315 : decode cL_rules 315 = .ok (.iload 6, 2) := by decide +kernel
theorem dL_rules_317 : decode cL_rules 317 = .ok (.iload 13, 2) := by decide +kernel
theorem dL_rules_319 : decode cL_rules 319 = .ok (.if_icmp .ne 7, 3) := by decide +kernel
theorem dL_rules_322 : decode cL_rules 322 = .ok (.iconst 0, 1) := by decide +kernel
theorem dL_rules_323 : decode cL_rules 323 = .ok (.goto 14, 3) := by decide +kernel
theorem dL_rules_326 : decode cL_rules 326 = .ok (.aload_n 0, 1) := by decide +kernel
theorem dL_rules_327 : decode cL_rules 327 = .ok (.iload 6, 2) := by decide +kernel
theorem dL_rules_329 : decode cL_rules 329 = .ok (.iload 13, 2) := by decide +kernel
theorem dL_rules_331 : decode cL_rules 331 = .ok (.invokestatic 21, 3) := by decide +kernel
theorem dL_rules_334 : decode cL_rules 334 = .ok (.iload 10, 2) := by decide +kernel
theorem dL_rules_336 : decode cL_rules 336 = .ok (.isub, 1) := by decide +kernel
theorem dL_rules_337 : decode cL_rules 337 = .ok (.istore 14, 2) := by decide +kernel
theorem dL_rules_339 : decode cL_rules 339 = .ok (.iload 6, 2) := by decide +kernel
theorem dL_rules_341 : decode cL_rules 341 = .ok (.iload 13, 2) := by decide +kernel
theorem dL_rules_343 : decode cL_rules 343 = .ok (.if_icmp .eq 27, 3) := by decide +kernel
theorem dL_rules_346 : decode cL_rules 346 = .ok (.aload_n 0, 1) := by decide +kernel
theorem dL_rules_347 : decode cL_rules 347 = .ok (.iload 6, 2) := by decide +kernel
theorem dL_rules_349 : decode cL_rules 349 = .ok (.iload 13, 2) := by decide +kernel
theorem dL_rules_351 : decode cL_rules 351 = .ok (.invokevirtual 30, 3) := by decide +kernel
theorem dL_rules_354 : decode cL_rules 354 = .ok (.iload 14, 2) := by decide +kernel
theorem dL_rules_356 : decode cL_rules 356 = .ok (.ifCond .le 8, 3) := by decide +kernel
theorem dL_rules_359 : decode cL_rules 359 = .ok (.iload 14, 2) := by decide +kernel
theorem dL_rules_361 : decode cL_rules 361 = .ok (.goto 4, 3) := by decide +kernel
theorem dL_rules_364 : decode cL_rules 364 = .ok (.iconst 0, 1) := by decide +kernel
theorem dL_rules_365 : decode cL_rules 365 = .ok (.if_icmp .eq 5, 3) := by decide +kernel
theorem dL_rules_368 : decode cL_rules 368 = .ok (.iconst 0, 1) := by decide +kernel
theorem dL_rules_369 : decode cL_rules 369 = .ok (.ireturn, 1) := by decide +kernel
theorem dL_rules_370 : decode cL_rules 370 = .ok (.iload_n 3, 1) := by decide +kernel
theorem dL_rules_371 : decode cL_rules 371 = .ok (.iload 14, 2) := by decide +kernel
theorem dL_rules_373 : decode cL_rules 373 = .ok (.ifCond .le 7, 3) := by decide +kernel
theorem dL_rules_376 : decode cL_rules 376 = .ok (.iconst 1, 1) := by decide +kernel
theorem dL_rules_377 : decode cL_rules 377 = .ok (.goto 4, 3) := by decide +kernel
theorem dL_rules_380 : decode cL_rules 380 = .ok (.iconst 0, 1) := by decide +kernel
theorem dL_rules_381 : decode cL_rules 381 = .ok (.iadd, 1) := by decide +kernel
theorem dL_rules_382 : decode cL_rules 382 = .ok (.istore_n 3, 1) := by decide +kernel
theorem dL_rules_383 : decode cL_rules 383 = .ok (.iload 4, 2) := by decide +kernel
theorem dL_rules_385 : decode cL_rules 385 = .ok (.iload 14, 2) := by decide +kernel
theorem dL_rules_387 : decode cL_rules 387 = .ok (.ifCond .le 8, 3) := by decide +kernel
theorem dL_rules_390 : decode cL_rules 390 = .ok (.iload 14, 2) := by decide +kernel
theorem dL_rules_392 : decode cL_rules 392 = .ok (.goto 4, 3) := by decide +kernel
theorem dL_rules_395 : decode cL_rules 395 = .ok (.iconst 0, 1) := by decide +kernel
theorem dL_rules_396 : decode cL_rules 396 = .ok (.iadd, 1) := by decide +kernel
theorem dL_rules_397 : decode cL_rules 397 = .ok (.istore 4, 2) := by decide +kernel
theorem dL_rules_399 : decode cL_rules 399 = .ok (.iinc 13 1, 3) := by decide +kernel
theorem dL_rules_402 : decode cL_rules 402 = .ok (.goto (-93), 3) := by decide +kernel
theorem dL_rules_405 : decode cL_rules 405 = .ok (.iload_n 2, 1) := by decide +kernel
theorem dL_rules_406 : decode cL_rules 406 = .ok (.iload 8, 2) := by decide +kernel
theorem dL_rules_408 : decode cL_rules 408 = .ok (.iadd, 1) := by decide +kernel
theorem dL_rules_409 : decode cL_rules 409 = .ok (.istore_n 2, 1) := by decide +kernel
theorem dL_rules_410 : decode cL_rules 410 = .ok (.iload 5, 2) := by decide +kernel
theorem dL_rules_412 : decode cL_rules 412 = .ok (.iload 7, 2) := by decide +kernel
theorem dL_rules_414 : decode cL_rules 414 = .ok (.ifCond .le 16, 3) := by decide +kernel
theorem dL_rules_417 : decode cL_rules 417 = .ok (.iload 10, 2) := by decide +kernel
theorem dL_rules_419 : decode cL_rules 419 = .ok (.iload_n 1, 1) := by decide +kernel
theorem dL_rules_420 : decode cL_rules 420 = .ok (.imul, 1) := by decide +kernel
theorem dL_rules_421 : decode cL_rules 421 = .ok (.iload 7, 2) := by decide +kernel
theorem dL_rules_423 : decode cL_rules 423 = .ok (.if_icmp .lt 7, 3) := by decide +kernel
theorem dL_rules_426 : decode cL_rules 426 = .ok (.iconst 1, 1) := by decide +kernel
theorem dL_rules_427 : decode cL_rules 427 = .ok (.goto 4, 3) := by decide +kernel
theorem dL_rules_430 : decode cL_rules 430 = .ok (.iconst 0, 1) := by decide +kernel
theorem dL_rules_431 : decode cL_rules 431 = .ok (.iadd, 1) := by decide +kernel
theorem dL_rules_432 : decode cL_rules 432 = .ok (.istore 5, 2) := by decide +kernel
theorem dL_rules_434 : decode cL_rules 434 = .ok (.iinc 6 1, 3) := by decide +kernel
theorem dL_rules_437 : decode cL_rules 437 = .ok (.goto (-414), 3) := by decide +kernel
theorem dL_rules_440 : decode cL_rules 440 = .ok (.iload_n 2, 1) := by decide +kernel
theorem dL_rules_441 : decode cL_rules 441 = .ok (.bipush 24, 2) := by decide +kernel
theorem dL_rules_443 : decode cL_rules 443 = .ok (.if_icmp .ne 60, 3) := by decide +kernel
theorem dL_rules_446 : decode cL_rules 446 = .ok (.aload_n 0, 1) := by decide +kernel
theorem dL_rules_447 : decode cL_rules 447 = .ok (.iconst 2, 1) := by decide +kernel
theorem dL_rules_448 : decode cL_rules 448 = .ok (.invokevirtual 18, 3) := by decide +kernel
theorem dL_rules_451 : decode cL_rules 451 = .ok (.iload_n 3, 1) := by decide +kernel
theorem dL_rules_452 : decode cL_rules 452 = .ok (.if_icmp .ne 51, 3) := by decide +kernel
theorem dL_rules_455 : decode cL_rules 455 = .ok (.aload_n 0, 1) := by decide +kernel
theorem dL_rules_456 : decode cL_rules 456 = .ok (.iconst 3, 1) := by decide +kernel
theorem dL_rules_457 : decode cL_rules 457 = .ok (.invokevirtual 18, 3) := by decide +kernel
theorem dL_rules_460 : decode cL_rules 460 = .ok (.iload 4, 2) := by decide +kernel
theorem dL_rules_462 : decode cL_rules 462 = .ok (.if_icmp .ne 41, 3) := by decide +kernel
theorem dL_rules_465 : decode cL_rules 465 = .ok (.aload_n 0, 1) := by decide +kernel
theorem dL_rules_466 : decode cL_rules 466 = .ok (.iconst 4, 1) := by decide +kernel
theorem dL_rules_467 : decode cL_rules 467 = .ok (.invokevirtual 18, 3) := by decide +kernel
theorem dL_rules_470 : decode cL_rules 470 = .ok (.iload_n 3, 1) := by decide +kernel
theorem dL_rules_471 : decode cL_rules 471 = .ok (.ifCond .ne 7, 3) := by decide +kernel
theorem dL_rules_474 : decode cL_rules 474 = .ok (.iconst 1, 1) := by decide +kernel
theorem dL_rules_475 : decode cL_rules 475 = .ok (.goto 4, 3) := by decide +kernel
theorem dL_rules_478 : decode cL_rules 478 = .ok (.iconst 0, 1) := by decide +kernel
theorem dL_rules_479 : decode cL_rules 479 = .ok (.if_icmp .ne 24, 3) := by decide +kernel
theorem dL_rules_482 : decode cL_rules 482 = .ok (.aload_n 0, 1) := by decide +kernel
theorem dL_rules_483 : decode cL_rules 483 = .ok (.iconst 5, 1) := by decide +kernel
theorem dL_rules_484 : decode cL_rules 484 = .ok (.invokevirtual 18, 3) := by decide +kernel
theorem dL_rules_487 : decode cL_rules 487 = .ok (.iload 5, 2) := by decide +kernel
theorem dL_rules_489 : decode cL_rules 489 = .ok (.if_icmp .ne 14, 3) := by decide +kernel
theorem dL_rules_492 : decode cL_rules 492 = .ok (.aload_n 0, 1) := by decide +kernel
theorem dL_rules_493 : decode cL_rules 493 = .ok (.invokestatic 33, 3) := by decide +kernel
theorem dL_rules_496 : decode cL_rules 496 = .ok (.ifCond .eq 7, 3) := by decide +kernel
theorem dL_rules_499 : decode cL_rules 499 = .ok (.iconst 1, 1) := by decide +kernel
theorem dL_rules_500 : decode cL_rules 500 = .ok (.goto 4, 3) := by decide +kernel
theorem dL_rules_503 : decode cL_rules 503 = .ok (.iconst 0, 1) := by decide +kernel
theorem dL_rules_504 : decode cL_rules 504 = .ok (.ireturn, 1) := by decide +kernel
set_option maxRecDepth 20000 in
theorem ggL_ring_X6_ring : GoodIn wsL_ring wsX6_ring := goodIn_r _ [5, 6, 7, 8, 9, 10, 11, 12, 13, 14, 15, 16, 17, 18, 19, 20, 21, 22, 23, 24, 25, 26, 27, 28, 29, 30, 31, 32, 33, 34, 35, 36, 37, 38, 39, 40, 41, 42, 43, 44, 45, 46, 47, 48, 49, 50, 51, 52, 53, 54, 55, 56, 57, 58, 59, 60, 61, 62, 63, 64, 65, 66, 67, 68, 69, 70, 118, 119, 120, 121, 122, 123, 124, 125, 126, 127, 128, 129, 130, 131, 132, 133] (by decide +kernel) (by decide +kernel)
set_option maxRecDepth 20000 in
theorem gL_ring_X6_ring : GoodIn wsL_ring (wsV RL 37 RX6 yX6_ring wsX6_ring) := goodIn_app (goodIn_of _ (by decide +kernel)) ggL_ring_X6_ring
set_option maxRecDepth 20000 in
theorem ggL_ring_X6_count : GoodIn wsL_ring wsX6_count := goodIn_r _ [74, 7, 75, 76, 77, 78, 79, 80, 81, 26, 82, 40, 83, 84, 85, 86, 87, 88, 24, 25, 27, 28, 29, 30, 31, 32, 33, 34, 35, 36, 37, 38, 39, 41, 89, 90, 91, 92, 93, 94, 95, 96, 97, 98, 99, 100, 101, 102, 103, 104, 118, 119, 120, 121, 122, 123, 124, 125, 131, 132, 133, 134, 135, 136, 137, 138] (by decide +kernel) (by decide +kernel)
set_option maxRecDepth 20000 in
theorem gL_ring_X6_count : GoodIn wsL_ring (wsV RL 18 RX6 yX6_count wsX6_count) := goodIn_app (goodIn_of _ (by decide +kernel)) ggL_ring_X6_count
set_option maxRecDepth 20000 in
theorem ggL_ring_X6_envy : GoodIn wsL_ring wsX6_envy := goodIn_r _ [108, 7, 109, 110, 111, 4, 112, 113, 114, 115, 26, 116, 87, 117, 24, 25, 27, 28, 29, 30, 31, 32, 33, 34, 35, 36, 37, 38, 39, 40, 41, 118, 119, 120, 121, 122, 123, 124, 125, 131, 132, 133] (by decide +kernel) (by decide +kernel)
set_option maxRecDepth 20000 in
theorem gL_ring_X6_envy : GoodIn wsL_ring (wsV RL 30 RX6 yX6_envy wsX6_envy) := goodIn_app (goodIn_of _ (by decide +kernel)) ggL_ring_X6_envy
theorem dL_ring_0 : decode cL_ring 0 = .ok (.iconst 0, 1) := by decide +kernel
theorem dL_ring_1 : decode cL_ring 1 = .ok (.istore_n 1, 1) := by decide +kernel
theorem dL_ring_2 : decode cL_ring 2 = .ok (.iload_n 1, 1) := by decide +kernel
theorem dL_ring_3 : decode cL_ring 3 = .ok (.iconst 5, 1) := by decide +kernel
theorem dL_ring_4 : decode cL_ring 4 = .ok (.if_icmp .ge 19, 3) := by decide +kernel

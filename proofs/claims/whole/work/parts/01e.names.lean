theorem dX7_setValue_1 : decode cX7_setValue 1 = .ok (.iload_n 1, 1) := by decide +kernel
theorem dX7_setValue_2 : decode cX7_setValue 2 = .ok (.invokevirtual 43, 3) := by decide +kernel
theorem dX7_setValue_5 : decode cX7_setValue 5 = .ok (.ifCond .eq 22, 3) := by decide +kernel
theorem dX7_setValue_8 : decode cX7_setValue 8 = .ok (.iload_n 2, 1) := by decide +kernel
theorem dX7_setValue_9 : decode cX7_setValue 9 = .ok (.iload_n 3, 1) := by decide +kernel
theorem dX7_setValue_10 : decode cX7_setValue 10 = .ok (.invokestatic 61, 3) := by decide +kernel
theorem dX7_setValue_13 : decode cX7_setValue 13 = .ok (.ifCond .eq 14, 3) := by decide +kernel
theorem dX7_setValue_16 : decode cX7_setValue 16 = .ok (.iload 4, 2) := by decide +kernel
theorem dX7_setValue_18 : decode cX7_setValue 18 = .ok (.iconst 0, 1) := by decide +kernel
theorem dX7_setValue_19 : decode cX7_setValue 19 = .ok (.bipush 9, 2) := by decide +kernel
theorem dX7_setValue_21 : decode cX7_setValue 21 = .ok (.invokestatic 39, 3) := by decide +kernel
theorem dX7_setValue_24 : decode cX7_setValue 24 = .ok (.ifCond .ne 5, 3) := by decide +kernel
theorem dX7_setValue_27 : decode cX7_setValue 27 = .ok (.iconst (-1), 1) := by decide +kernel
theorem dX7_setValue_28 : decode cX7_setValue 28 = .ok (.ireturn, 1) := by decide +kernel
theorem dX7_setValue_29 : decode cX7_setValue 29 = .ok (.aload_n 0, 1) := by decide +kernel
theorem dX7_setValue_30 : decode cX7_setValue 30 = .ok (.invokevirtual 58, 3) := by decide +kernel
theorem dX7_setValue_33 : decode cX7_setValue 33 = .ok (.iload_n 2, 1) := by decide +kernel
theorem dX7_setValue_34 : decode cX7_setValue 34 = .ok (.istore 5, 2) := by decide +kernel
theorem dX7_setValue_36 : decode cX7_setValue 36 = .ok (.iload 5, 2) := by decide +kernel
theorem dX7_setValue_38 : decode cX7_setValue 38 = .ok (.iload_n 3, 1) := by decide +kernel
theorem dX7_setValue_39 : decode cX7_setValue 39 = .ok (.if_icmp .gt 26, 3) := by decide +kernel
theorem dX7_setValue_42 : decode cX7_setValue 42 = .ok (.aload_n 0, 1) := by decide +kernel
theorem dX7_setValue_43 : decode cX7_setValue 43 = .ok (.getfield 7, 3) := by decide +kernel
theorem dX7_setValue_46 : decode cX7_setValue 46 = .ok (.bipush 25, 2) := by decide +kernel
theorem dX7_setValue_48 : decode cX7_setValue 48 = .ok (.bipush 24, 2) := by decide +kernel
theorem dX7_setValue_50 : decode cX7_setValue 50 = .ok (.iload_n 1, 1) := by decide +kernel
theorem dX7_setValue_51 : decode cX7_setValue 51 = .ok (.imul, 1) := by decide +kernel
theorem dX7_setValue_52 : decode cX7_setValue 52 = .ok (.iadd, 1) := by decide +kernel
theorem dX7_setValue_53 : decode cX7_setValue 53 = .ok (.iload 5, 2) := by decide +kernel
theorem dX7_setValue_55 : decode cX7_setValue 55 = .ok (.iadd, 1) := by decide +kernel
theorem dX7_setValue_56 : decode cX7_setValue 56 = .ok (.iload 4, 2) := by decide +kernel
theorem dX7_setValue_58 : decode cX7_setValue 58 = .ok (.iastore, 1) := by decide +kernel
theorem dX7_setValue_59 : decode cX7_setValue 59 = .ok (.iinc 5 1, 3) := by decide +kernel
theorem dX7_setValue_62 : decode cX7_setValue 62 = .ok (.goto (-26), 3) := by decide +kernel
theorem dX7_setValue_65 : decode cX7_setValue 65 = .ok (.aload_n 0, 1) := by decide +kernel
theorem dX7_setValue_66 : decode cX7_setValue 66 = .ok (.iload_n 1, 1) := by decide +kernel
theorem dX7_setValue_67 : decode cX7_setValue 67 = .ok (.invokevirtual 65, 3) := by decide +kernel
theorem dX7_setValue_70 : decode cX7_setValue 70 = .ok (.ireturn, 1) := by decide +kernel
set_option maxRecDepth 20000 in
theorem ggX7_append_X7_in : GoodIn wsX7_append wsX7_in := goodIn_r _ [6] (by decide +kernel) (by decide +kernel)
set_option maxRecDepth 20000 in
theorem gX7_append_X7_in : GoodIn wsX7_append (va_wsS RX7 39 yX7_in wsX7_in) := goodIn_app (goodIn_of _ (by decide +kernel)) ggX7_append_X7_in
theorem dX7_append_0 : decode cX7_append 0 = .ok (.iload_n 1, 1) := by decide +kernel
theorem dX7_append_1 : decode cX7_append 1 = .ok (.iconst 1, 1) := by decide +kernel
theorem dX7_append_2 : decode cX7_append 2 = .ok (.sipush 255, 3) := by decide +kernel
theorem dX7_append_5 : decode cX7_append 5 = .ok (.invokestatic 39, 3) := by decide +kernel
theorem dX7_append_8 : decode cX7_append 8 = .ok (.ifCond .ne 5, 3) := by decide +kernel
theorem dX7_append_11 : decode cX7_append 11 = .ok (.iconst (-1), 1) := by decide +kernel
theorem dX7_append_12 : decode cX7_append 12 = .ok (.ireturn, 1) := by decide +kernel
theorem dX7_append_13 : decode cX7_append 13 = .ok (.aload_n 0, 1) := by decide +kernel
theorem dX7_append_14 : decode cX7_append 14 = .ok (.getfield 69, 3) := by decide +kernel
theorem dX7_append_17 : decode cX7_append 17 = .ok (.bipush 60, 2) := by decide +kernel
theorem dX7_append_19 : decode cX7_append 19 = .ok (.if_icmp .ne 6, 3) := by decide +kernel
theorem dX7_append_22 : decode cX7_append 22 = .ok (.bipush (-3), 2) := by decide +kernel
theorem dX7_append_24 : decode cX7_append 24 = .ok (.ireturn, 1) := by decide +kernel
theorem dX7_append_25 : decode cX7_append 25 = .ok (.aload_n 0, 1) := by decide +kernel
theorem dX7_append_26 : decode cX7_append 26 = .ok (.getfield 13, 3) := by decide +kernel
theorem dX7_append_29 : decode cX7_append 29 = .ok (.aload_n 0, 1) := by decide +kernel
theorem dX7_append_30 : decode cX7_append 30 = .ok (.getfield 69, 3) := by decide +kernel
theorem dX7_append_33 : decode cX7_append 33 = .ok (.iload_n 1, 1) := by decide +kernel
theorem dX7_append_34 : decode cX7_append 34 = .ok (.iastore, 1) := by decide +kernel
theorem dX7_append_35 : decode cX7_append 35 = .ok (.aload_n 0, 1) := by decide +kernel
theorem dX7_append_36 : decode cX7_append 36 = .ok (.dup, 1) := by decide +kernel
theorem dX7_append_37 : decode cX7_append 37 = .ok (.getfield 69, 3) := by decide +kernel
theorem dX7_append_40 : decode cX7_append 40 = .ok (.iconst 1, 1) := by decide +kernel
theorem dX7_append_41 : decode cX7_append 41 = .ok (.iadd, 1) := by decide +kernel
theorem dX7_append_42 : decode cX7_append 42 = .ok (.putfield 69, 3) := by decide +kernel
theorem dX7_append_45 : decode cX7_append 45 = .ok (.aload_n 0, 1) := by decide +kernel
theorem dX7_append_46 : decode cX7_append 46 = .ok (.getfield 69, 3) := by decide +kernel
theorem dX7_append_49 : decode cX7_append 49 = .ok (.ireturn, 1) := by decide +kernel
theorem dX7_clearText_0 : decode cX7_clearText 0 = .ok (.aload_n 0, 1) := by decide +kernel
theorem dX7_clearText_1 : decode cX7_clearText 1 = .ok (.getfield 69, 3) := by decide +kernel
theorem dX7_clearText_4 : decode cX7_clearText 4 = .ok (.istore_n 1, 1) := by decide +kernel
theorem dX7_clearText_5 : decode cX7_clearText 5 = .ok (.aload_n 0, 1) := by decide +kernel
theorem dX7_clearText_6 : decode cX7_clearText 6 = .ok (.iconst 0, 1) := by decide +kernel
theorem dX7_clearText_7 : decode cX7_clearText 7 = .ok (.putfield 69, 3) := by decide +kernel
theorem dX7_clearText_10 : decode cX7_clearText 10 = .ok (.iload_n 1, 1) := by decide +kernel
theorem dX7_clearText_11 : decode cX7_clearText 11 = .ok (.ireturn, 1) := by decide +kernel
set_option maxRecDepth 20000 in
theorem ggX7_isDigit_X7_in : GoodIn wsX7_isDigit wsX7_in := goodIn_r _ [6] (by decide +kernel) (by decide +kernel)
set_option maxRecDepth 20000 in
theorem gX7_isDigit_X7_in : GoodIn wsX7_isDigit (va_wsS RX7 39 yX7_in wsX7_in) := goodIn_app (goodIn_of _ (by decide +kernel)) ggX7_isDigit_X7_in
theorem dX7_isDigit_0 : decode cX7_isDigit 0 = .ok (.iload_n 1, 1) := by decide +kernel
theorem dX7_isDigit_1 : decode cX7_isDigit 1 = .ok (.aload_n 0, 1) := by decide +kernel
theorem dX7_isDigit_2 : decode cX7_isDigit 2 = .ok (.getfield 69, 3) := by decide +kernel
theorem dX7_isDigit_5 : decode cX7_isDigit 5 = .ok (.if_icmp .ge 25, 3) := by decide +kernel
theorem dX7_isDigit_8 : decode cX7_isDigit 8 = .ok (.aload_n 0, 1) := by decide +kernel
theorem dX7_isDigit_9 : decode cX7_isDigit 9 = .ok (.getfield 13, 3) := by decide +kernel
theorem dX7_isDigit_12 : decode cX7_isDigit 12 = .ok (.iload_n 1, 1) := by decide +kernel
theorem dX7_isDigit_13 : decode cX7_isDigit 13 = .ok (.iaload, 1) := by decide +kernel
theorem dX7_isDigit_14 : decode cX7_isDigit 14 = .ok (.bipush 48, 2) := by decide +kernel
theorem dX7_isDigit_16 : decode cX7_isDigit 16 = .ok (.iload_n 2, 1) := by decide +kernel
theorem dX7_isDigit_17 : decode cX7_isDigit 17 = .ok (.iadd, 1) := by decide +kernel
theorem dX7_isDigit_18 : decode cX7_isDigit 18 = .ok (.bipush 57, 2) := by decide +kernel
theorem dX7_isDigit_20 : decode cX7_isDigit 20 = .ok (.invokestatic 39, 3) := by decide +kernel
theorem dX7_isDigit_23 : decode cX7_isDigit 23 = .ok (.ifCond .eq 7, 3) := by decide +kernel
theorem dX7_isDigit_26 : decode cX7_isDigit 26 = .ok (.iconst 1, 1) := by decide +kernel
theorem dX7_isDigit_27 : decode cX7_isDigit 27 = .ok (.goto 4, 3) := by decide +kernel
theorem dX7_isDigit_30 : decode cX7_isDigit 30 = .ok (.iconst 0, 1) := by decide +kernel
theorem dX7_isDigit_31 : decode cX7_isDigit 31 = .ok (.ireturn, 1) := by decide +kernel
set_option maxRecDepth 20000 in
theorem ggX7_reads_X7_isDigit : GoodIn wsX7_reads wsX7_isDigit := goodIn_r _ [8, 2, 1, 9, 10, 7, 11, 12, 13, 14, 15, 16, 17, 18, 19, 20, 21, 22, 23, 24, 25, 26, 27] (by decide +kernel) (by decide +kernel)
set_option maxRecDepth 20000 in
theorem gX7_reads_X7_isDigit : GoodIn wsX7_reads (wsV RX7 72 RX7 yX7_isDigit wsX7_isDigit) := goodIn_app (goodIn_of _ (by decide +kernel)) ggX7_reads_X7_isDigit
theorem dX7_reads_0 : decode cX7_reads 0 = .ok (.iconst 0, 1) := by decide +kernel
theorem dX7_reads_1 : decode cX7_reads 1 = .ok (.istore_n 1, 1) := by decide +kernel
theorem dX7_reads_2 : decode cX7_reads 2 = .ok (.iconst 0, 1) := by decide +kernel
theorem dX7_reads_3 : decode cX7_reads 3 = .ok (.istore_n 2, 1) := by decide +kernel
theorem dX7_reads_4 : decode cX7_reads 4 = .ok (.iconst 1, 1) := by decide +kernel
theorem dX7_reads_5 : decode cX7_reads 5 = .ok (.istore_n 3, 1) := by decide +kernel
theorem dX7_reads_6 : decode cX7_reads 6 = .ok (.iload_n 3, 1) := by decide +kernel
theorem dX7_reads_7 : decode cX7_reads 7 = .ok (.ifCond .eq 206, 3) := by decide +kernel
theorem dX7_reads_10 : decode cX7_reads 10 = .ok (.aload_n 0, 1) := by decide +kernel
theorem dX7_reads_11 : decode cX7_reads 11 = .ok (.iload_n 1, 1) := by decide +kernel
theorem dX7_reads_12 : decode cX7_reads 12 = .ok (.iconst 0, 1) := by decide +kernel
theorem dX7_reads_13 : decode cX7_reads 13 = .ok (.invokevirtual 72, 3) := by decide +kernel
theorem dX7_reads_16 : decode cX7_reads 16 = .ok (.ifCond .eq 9, 3) := by decide +kernel
theorem dX7_reads_19 : decode cX7_reads 19 = .ok (.iload_n 2, 1) := by decide +kernel
theorem dX7_reads_20 : decode cX7_reads 20 = .ok (.bipush 24, 2) := by decide +kernel
theorem dX7_reads_22 : decode cX7_reads 22 = .ok (.if_icmp .ne 5, 3) := by decide +kernel
theorem dX7_reads_25 : decode cX7_reads 25 = .ok (.iload_n 1, 1) := by decide +kernel
theorem dX7_reads_26 : decode cX7_reads 26 = .ok (.ireturn, 1) := by decide +kernel
theorem dX7_reads_27 : decode cX7_reads 27 = .ok (.aload_n 0, 1) := by decide +kernel
theorem dX7_reads_28 : decode cX7_reads 28 = .ok (.getfield 13, 3) := by decide +kernel
theorem dX7_reads_31 : decode cX7_reads 31 = .ok (.iload_n 1, 1) := by decide +kernel
theorem dX7_reads_32 : decode cX7_reads 32 = .ok (.iaload, 1) := by decide +kernel
theorem dX7_reads_33 : decode cX7_reads 33 = .ok (.bipush 48, 2) := by decide +kernel
theorem dX7_reads_35 : decode cX7_reads 35 = .ok (.isub, 1) := by decide +kernel
theorem dX7_reads_36 : decode cX7_reads 36 = .ok (.istore 4, 2) := by decide +kernel
theorem dX7_reads_38 : decode cX7_reads 38 = .ok (.iconst 1, 1) := by decide +kernel
theorem dX7_reads_39 : decode cX7_reads 39 = .ok (.istore 5, 2) := by decide +kernel
theorem dX7_reads_41 : decode cX7_reads 41 = .ok (.iinc 1 1, 3) := by decide +kernel
theorem dX7_reads_44 : decode cX7_reads 44 = .ok (.iload_n 1, 1) := by decide +kernel
theorem dX7_reads_45 : decode cX7_reads 45 = .ok (.aload_n 0, 1) := by decide +kernel
theorem dX7_reads_46 : decode cX7_reads 46 = .ok (.getfield 69, 3) := by decide +kernel
theorem dX7_reads_49 : decode cX7_reads 49 = .ok (.if_icmp .ge 97, 3) := by decide +kernel
theorem dX7_reads_52 : decode cX7_reads 52 = .ok (.aload_n 0, 1) := by decide +kernel
theorem dX7_reads_53 : decode cX7_reads 53 = .ok (.getfield 13, 3) := by decide +kernel
theorem dX7_reads_56 : decode cX7_reads 56 = .ok (.iload_n 1, 1) := by decide +kernel
theorem dX7_reads_57 : decode cX7_reads 57 = .ok (.iaload, 1) := by decide +kernel
theorem dX7_reads_58 : decode cX7_reads 58 = .ok (.bipush 120, 2) := by decide +kernel
theorem dX7_reads_60 : decode cX7_reads 60 = .ok (.if_icmp .ne 86, 3) := by decide +kernel
theorem dX7_reads_63 : decode cX7_reads 63 = .ok (.iinc 1 1, 3) := by decide +kernel
theorem dX7_reads_66 : decode cX7_reads 66 = .ok (.aload_n 0, 1) := by decide +kernel
theorem dX7_reads_67 : decode cX7_reads 67 = .ok (.iload_n 1, 1) := by decide +kernel
theorem dX7_reads_68 : decode cX7_reads 68 = .ok (.iconst 1, 1) := by decide +kernel
theorem dX7_reads_69 : decode cX7_reads 69 = .ok (.invokevirtual 72, 3) := by decide +kernel
theorem dX7_reads_72 : decode cX7_reads 72 = .ok (.ifCond .ne 5, 3) := by decide +kernel
theorem dX7_reads_75 : decode cX7_reads 75 = .ok (.iload_n 1, 1) := by decide +kernel
theorem dX7_reads_76 : decode cX7_reads 76 = .ok (.ireturn, 1) := by decide +kernel
theorem dX7_reads_77 : decode cX7_reads 77 = .ok (.iload_n 1, 1) := by decide +kernel
theorem dX7_reads_78 : decode cX7_reads 78 = .ok (.istore 6, 2) := by decide +kernel
theorem dX7_reads_80 : decode cX7_reads 80 = .ok (.aload_n 0, 1) := by decide +kernel
theorem dX7_reads_81 : decode cX7_reads 81 = .ok (.getfield 13, 3) := by decide +kernel
theorem dX7_reads_84 : decode cX7_reads 84 = .ok (.iload_n 1, 1) := by decide +kernel
theorem dX7_reads_85 : decode cX7_reads 85 = .ok (.iaload, 1) := by decide +kernel
theorem dX7_reads_86 : decode cX7_reads 86 = .ok (.bipush 48, 2) := by decide +kernel
theorem dX7_reads_88 : decode cX7_reads 88 = .ok (.isub, 1) := by decide +kernel
theorem dX7_reads_89 : decode cX7_reads 89 = .ok (.istore 5, 2) := by decide +kernel
theorem dX7_reads_91 : decode cX7_reads 91 = .ok (.iinc 1 1, 3) := by decide +kernel
theorem dX7_reads_94 : decode cX7_reads 94 = .ok (.aload_n 0, 1) := by decide +kernel
theorem dX7_reads_95 : decode cX7_reads 95 = .ok (.iload_n 1, 1) := by decide +kernel
theorem dX7_reads_96 : decode cX7_reads 96 = .ok (.iconst 0, 1) := by decide +kernel
theorem dX7_reads_97 : decode cX7_reads 97 = .ok (.invokevirtual 72, 3) := by decide +kernel
theorem dX7_reads_100 : decode cX7_reads 100 = .ok (.ifCond .eq 23, 3) := by decide +kernel
theorem dX7_reads_103 : decode cX7_reads 103 = .ok (.bipush 10, 2) := by decide +kernel
theorem dX7_reads_105 : decode cX7_reads 105 = .ok (.iload 5, 2) := by decide +kernel
theorem dX7_reads_107 : decode cX7_reads 107 = .ok (.imul, 1) := by decide +kernel
theorem dX7_reads_108 : decode cX7_reads 108 = .ok (.aload_n 0, 1) := by decide +kernel
theorem dX7_reads_109 : decode cX7_reads 109 = .ok (.getfield 13, 3) := by decide +kernel
theorem dX7_reads_112 : decode cX7_reads 112 = .ok (.iload_n 1, 1) := by decide +kernel
theorem dX7_reads_113 : decode cX7_reads 113 = .ok (.iaload, 1) := by decide +kernel
theorem dX7_reads_114 : decode cX7_reads 114 = .ok (.iadd, 1) := by decide +kernel
theorem dX7_reads_115 : decode cX7_reads 115 = .ok (.bipush 48, 2) := by decide +kernel
theorem dX7_reads_117 : decode cX7_reads 117 = .ok (.isub, 1) := by decide +kernel
theorem dX7_reads_118 : decode cX7_reads 118 = .ok (.istore 5, 2) := by decide +kernel
theorem dX7_reads_120 : decode cX7_reads 120 = .ok (.iinc 1 1, 3) := by decide +kernel
theorem dX7_reads_123 : decode cX7_reads 123 = .ok (.aload_n 0, 1) := by decide +kernel
theorem dX7_reads_124 : decode cX7_reads 124 = .ok (.iload_n 1, 1) := by decide +kernel
theorem dX7_reads_125 : decode cX7_reads 125 = .ok (.iconst 0, 1) := by decide +kernel
theorem dX7_reads_126 : decode cX7_reads 126 = .ok (.invokevirtual 72, 3) := by decide +kernel
theorem dX7_reads_129 : decode cX7_reads 129 = .ok (.ifCond .eq 5, 3) := by decide +kernel
theorem dX7_reads_132 : decode cX7_reads 132 = .ok (.iload_n 1, 1) := by decide +kernel
theorem dX7_reads_133 : decode cX7_reads 133 = .ok (.ireturn, 1) := by decide +kernel
theorem dX7_reads_134 : decode cX7_reads 134 = .ok (.iload 5, 2) := by decide +kernel
theorem dX7_reads_136 : decode cX7_reads 136 = .ok (.bipush 24, 2) := by decide +kernel
theorem dX7_reads_138 : decode cX7_reads 138 = .ok (.iload_n 2, 1) := by decide +kernel
theorem dX7_reads_139 : decode cX7_reads 139 = .ok (.isub, 1) := by decide +kernel
theorem dX7_reads_140 : decode cX7_reads 140 = .ok (.if_icmp .le 6, 3) := by decide +kernel
theorem dX7_reads_143 : decode cX7_reads 143 = .ok (.iload 6, 2) := by decide +kernel
theorem dX7_reads_145 : decode cX7_reads 145 = .ok (.ireturn, 1) := by decide +kernel
theorem dX7_reads_146 : decode cX7_reads 146 = .ok (.iconst 0, 1) := by decide +kernel
theorem dX7_reads_147 : decode cX7_reads 147 = .ok (.istore 6, 2) := by decide +kernel
theorem dX7_reads_149 : decode cX7_reads 149 = .ok (.iload 6, 2) := by decide +kernel
theorem dX7_reads_151 : decode cX7_reads 151 = .ok (.iload 5, 2) := by decide +kernel
theorem dX7_reads_153 : decode cX7_reads 153 = .ok (.if_icmp .ge 20, 3) := by decide +kernel
theorem dX7_reads_156 : decode cX7_reads 156 = .ok (.aload_n 0, 1) := by decide +kernel
theorem dX7_reads_157 : decode cX7_reads 157 = .ok (.getfield 16, 3) := by decide +kernel
theorem dX7_reads_160 : decode cX7_reads 160 = .ok (.iload_n 2, 1) := by decide +kernel
theorem dX7_reads_161 : decode cX7_reads 161 = .ok (.iload 4, 2) := by decide +kernel
theorem dX7_reads_163 : decode cX7_reads 163 = .ok (.iastore, 1) := by decide +kernel
theorem dX7_reads_164 : decode cX7_reads 164 = .ok (.iinc 2 1, 3) := by decide +kernel
theorem dX7_reads_167 : decode cX7_reads 167 = .ok (.iinc 6 1, 3) := by decide +kernel
theorem dX7_reads_170 : decode cX7_reads 170 = .ok (.goto (-21), 3) := by decide +kernel
theorem dX7_reads_173 : decode cX7_reads 173 = .ok (.iload_n 1, 1) := by decide +kernel
theorem dX7_reads_174 : decode cX7_reads 174 = .ok (.aload_n 0, 1) := by decide +kernel
theorem dX7_reads_175 : decode cX7_reads 175 = .ok (.getfield 69, 3) := by decide +kernel
theorem dX7_reads_178 : decode cX7_reads 178 = .ok (.if_icmp .ge 18, 3) := by decide +kernel
theorem dX7_reads_181 : decode cX7_reads 181 = .ok (.aload_n 0, 1) := by decide +kernel
theorem dX7_reads_182 : decode cX7_reads 182 = .ok (.getfield 13, 3) := by decide +kernel
theorem dX7_reads_185 : decode cX7_reads 185 = .ok (.iload_n 1, 1) := by decide +kernel
theorem dX7_reads_186 : decode cX7_reads 186 = .ok (.iaload, 1) := by decide +kernel
theorem dX7_reads_187 : decode cX7_reads 187 = .ok (.bipush 44, 2) := by decide +kernel
theorem dX7_reads_189 : decode cX7_reads 189 = .ok (.if_icmp .ne 7, 3) := by decide +kernel
theorem dX7_reads_192 : decode cX7_reads 192 = .ok (.iconst 1, 1) := by decide +kernel
theorem dX7_reads_193 : decode cX7_reads 193 = .ok (.goto 4, 3) := by decide +kernel
theorem dX7_reads_196 : decode cX7_reads 196 = .ok (.iconst 0, 1) := by decide +kernel
theorem dX7_reads_197 : decode cX7_reads 197 = .ok (.istore_n 3, 1) := by decide +kernel
theorem dX7_reads_198 : decode cX7_reads 198 = .ok (.iload_n 1, 1) := by decide +kernel
theorem dX7_reads_199 : decode cX7_reads 199 = .ok (.iload_n 3, 1) := by decide +kernel
theorem dX7_reads_200 : decode cX7_reads 200 = .ok (.ifCond .eq 7, 3) := by decide +kernel
theorem dX7_reads_203 : decode cX7_reads 203 = .ok (.iconst 1, 1) := by decide +kernel
theorem dX7_reads_204 : decode cX7_reads 204 = .ok (.goto 4, 3) := by decide +kernel
theorem dX7_reads_207 : decode cX7_reads 207 = .ok (.iconst 0, 1) := by decide +kernel
theorem dX7_reads_208 : decode cX7_reads 208 = .ok (.iadd, 1) := by decide +kernel
theorem dX7_reads_209 : decode cX7_reads 209 = .ok (.istore_n 1, 1) := by decide +kernel
theorem dX7_reads_210 : decode cX7_reads 210 = .ok (.goto (-204), 3) := by decide +kernel
theorem dX7_reads_213 : decode cX7_reads 213 = .ok (.iload_n 1, 1) := by decide +kernel
theorem dX7_reads_214 : decode cX7_reads 214 = .ok (.aload_n 0, 1) := by decide +kernel
theorem dX7_reads_215 : decode cX7_reads 215 = .ok (.getfield 69, 3) := by decide +kernel
theorem dX7_reads_218 : decode cX7_reads 218 = .ok (.if_icmp .lt 9, 3) := by decide +kernel
theorem dX7_reads_221 : decode cX7_reads 221 = .ok (.iload_n 2, 1) := by decide +kernel
theorem dX7_reads_222 : decode cX7_reads 222 = .ok (.bipush 24, 2) := by decide +kernel
theorem dX7_reads_224 : decode cX7_reads 224 = .ok (.if_icmp .ge 7, 3) := by decide +kernel
theorem dX7_reads_227 : decode cX7_reads 227 = .ok (.iload_n 1, 1) := by decide +kernel
theorem dX7_reads_228 : decode cX7_reads 228 = .ok (.goto 5, 3) := by decide +kernel
theorem dX7_reads_231 : decode cX7_reads 231 = .ok (.bipush (-9), 2) := by decide +kernel
theorem dX7_reads_233 : decode cX7_reads 233 = .ok (.ireturn, 1) := by decide +kernel
set_option maxRecDepth 20000 in
theorem ggX7_read_X7_isGuest : GoodIn wsX7_read wsX7_isGuest := goodIn_r _ [8, 2, 9, 10, 7, 11, 43, 44, 45, 46, 47, 48, 49, 50, 51, 52, 53, 54, 55, 56, 57, 58] (by decide +kernel) (by decide +kernel)
set_option maxRecDepth 20000 in
theorem gX7_read_X7_isGuest : GoodIn wsX7_read (wsV RX7 43 RX7 yX7_isGuest wsX7_isGuest) := goodIn_app (goodIn_of _ (by decide +kernel)) ggX7_read_X7_isGuest
set_option maxRecDepth 20000 in
theorem ggX7_read_X7_reads : GoodIn wsX7_read wsX7_reads := goodIn_r _ [15, 16, 17, 3, 18, 19, 20, 7, 21, 9, 10, 11, 43, 44, 45, 46, 47, 48, 49, 50, 51, 52, 53, 54, 55, 56, 57, 58] (by decide +kernel) (by decide +kernel)
set_option maxRecDepth 20000 in
theorem gX7_read_X7_reads : GoodIn wsX7_read (wsV RX7 75 RX7 yX7_reads wsX7_reads) := goodIn_app (goodIn_of _ (by decide +kernel)) ggX7_read_X7_reads
set_option maxRecDepth 20000 in
theorem ggX7_read_X7_records : GoodIn wsX7_read wsX7_records := goodIn_r _ [25, 26, 27, 28, 29, 7, 30, 2, 43, 44, 45, 46, 47, 48, 49, 50, 51, 52, 53, 54, 55, 56, 57, 58] (by decide +kernel) (by decide +kernel)
set_option maxRecDepth 20000 in
theorem gX7_read_X7_records : GoodIn wsX7_read (wsV RX7 58 RX7 yX7_records wsX7_records) := goodIn_app (goodIn_of _ (by decide +kernel)) ggX7_read_X7_records
set_option maxRecDepth 20000 in
theorem ggX7_read_X7_total : GoodIn wsX7_read wsX7_total := goodIn_r _ [34, 35, 36, 37, 7, 38, 39, 40, 41, 42, 2, 43, 44, 45, 46, 47, 48, 49, 50, 51, 52, 53, 54, 55, 56, 57, 58] (by decide +kernel) (by decide +kernel)
set_option maxRecDepth 20000 in
theorem gX7_read_X7_total : GoodIn wsX7_read (wsV RX7 65 RX7 yX7_total wsX7_total) := goodIn_app (goodIn_of _ (by decide +kernel)) ggX7_read_X7_total
theorem dX7_read_0 : decode cX7_read 0 = .ok (.aload_n 0, 1) := by decide +kernel
theorem dX7_read_1 : decode cX7_read 1 = .ok (.iload_n 1, 1) := by decide +kernel
theorem dX7_read_2 : decode cX7_read 2 = .ok (.invokevirtual 43, 3) := by decide +kernel
theorem dX7_read_5 : decode cX7_read 5 = .ok (.ifCond .ne 5, 3) := by decide +kernel
theorem dX7_read_8 : decode cX7_read 8 = .ok (.iconst (-1), 1) := by decide +kernel
theorem dX7_read_9 : decode cX7_read 9 = .ok (.ireturn, 1) := by decide +kernel
theorem dX7_read_10 : decode cX7_read 10 = .ok (.aload_n 0, 1) := by decide +kernel
theorem dX7_read_11 : decode cX7_read 11 = .ok (.aload_n 0, 1) := by decide +kernel
theorem dX7_read_12 : decode cX7_read 12 = .ok (.invokevirtual 75, 3) := by decide +kernel
theorem dX7_read_15 : decode cX7_read 15 = .ok (.putfield 79, 3) := by decide +kernel
theorem dX7_read_18 : decode cX7_read 18 = .ok (.aload_n 0, 1) := by decide +kernel
theorem dX7_read_19 : decode cX7_read 19 = .ok (.getfield 79, 3) := by decide +kernel
theorem dX7_read_22 : decode cX7_read 22 = .ok (.bipush (-9), 2) := by decide +kernel
theorem dX7_read_24 : decode cX7_read 24 = .ok (.if_icmp .eq 12, 3) := by decide +kernel
theorem dX7_read_27 : decode cX7_read 27 = .ok (.sipush (-1000), 3) := by decide +kernel
theorem dX7_read_30 : decode cX7_read 30 = .ok (.aload_n 0, 1) := by decide +kernel
theorem dX7_read_31 : decode cX7_read 31 = .ok (.getfield 79, 3) := by decide +kernel
theorem dX7_read_34 : decode cX7_read 34 = .ok (.isub, 1) := by decide +kernel
theorem dX7_read_35 : decode cX7_read 35 = .ok (.ireturn, 1) := by decide +kernel
theorem dX7_read_36 : decode cX7_read 36 = .ok (.aload_n 0, 1) := by decide +kernel
theorem dX7_read_37 : decode cX7_read 37 = .ok (.invokevirtual 58, 3) := by decide +kernel
theorem dX7_read_40 : decode cX7_read 40 = .ok (.iconst 0, 1) := by decide +kernel
theorem dX7_read_41 : decode cX7_read 41 = .ok (.istore_n 2, 1) := by decide +kernel
theorem dX7_read_42 : decode cX7_read 42 = .ok (.iload_n 2, 1) := by decide +kernel
theorem dX7_read_43 : decode cX7_read 43 = .ok (.bipush 24, 2) := by decide +kernel
theorem dX7_read_45 : decode cX7_read 45 = .ok (.if_icmp .ge 29, 3) := by decide +kernel
theorem dX7_read_48 : decode cX7_read 48 = .ok (.aload_n 0, 1) := by decide +kernel
theorem dX7_read_49 : decode cX7_read 49 = .ok (.getfield 7, 3) := by decide +kernel
theorem dX7_read_52 : decode cX7_read 52 = .ok (.bipush 25, 2) := by decide +kernel
theorem dX7_read_54 : decode cX7_read 54 = .ok (.bipush 24, 2) := by decide +kernel
theorem dX7_read_56 : decode cX7_read 56 = .ok (.iload_n 1, 1) := by decide +kernel
theorem dX7_read_57 : decode cX7_read 57 = .ok (.imul, 1) := by decide +kernel
theorem dX7_read_58 : decode cX7_read 58 = .ok (.iadd, 1) := by decide +kernel
theorem dX7_read_59 : decode cX7_read 59 = .ok (.iload_n 2, 1) := by decide +kernel
theorem dX7_read_60 : decode cX7_read 60 = .ok (.iadd, 1) := by decide +kernel
theorem dX7_read_61 : decode cX7_read 61 = .ok (.aload_n 0, 1) := by decide +kernel
theorem dX7_read_62 : decode cX7_read 62 = .ok (.getfield 16, 3) := by decide +kernel
theorem dX7_read_65 : decode cX7_read 65 = .ok (.iload_n 2, 1) := by decide +kernel
theorem dX7_read_66 : decode cX7_read 66 = .ok (.iaload, 1) := by decide +kernel
theorem dX7_read_67 : decode cX7_read 67 = .ok (.iastore, 1) := by decide +kernel
theorem dX7_read_68 : decode cX7_read 68 = .ok (.iinc 2 1, 3) := by decide +kernel
theorem dX7_read_71 : decode cX7_read 71 = .ok (.goto (-29), 3) := by decide +kernel
theorem dX7_read_74 : decode cX7_read 74 = .ok (.aload_n 0, 1) := by decide +kernel
theorem dX7_read_75 : decode cX7_read 75 = .ok (.iload_n 1, 1) := by decide +kernel
theorem dX7_read_76 : decode cX7_read 76 = .ok (.invokevirtual 65, 3) := by decide +kernel
theorem dX7_read_79 : decode cX7_read 79 = .ok (.ireturn, 1) := by decide +kernel
theorem dX7_brings_0 : decode cX7_brings 0 = .ok (.iconst 0, 1) := by decide +kernel
theorem dX7_brings_1 : decode cX7_brings 1 = .ok (.istore 5, 2) := by decide +kernel
theorem dX7_brings_3 : decode cX7_brings 3 = .ok (.iload_n 1, 1) := by decide +kernel
theorem dX7_brings_4 : decode cX7_brings 4 = .ok (.istore 6, 2) := by decide +kernel
theorem dX7_brings_6 : decode cX7_brings 6 = .ok (.iload 6, 2) := by decide +kernel
theorem dX7_brings_8 : decode cX7_brings 8 = .ok (.iload_n 2, 1) := by decide +kernel
theorem dX7_brings_9 : decode cX7_brings 9 = .ok (.if_icmp .gt 46, 3) := by decide +kernel
theorem dX7_brings_12 : decode cX7_brings 12 = .ok (.aload_n 0, 1) := by decide +kernel
theorem dX7_brings_13 : decode cX7_brings 13 = .ok (.getfield 7, 3) := by decide +kernel
theorem dX7_brings_16 : decode cX7_brings 16 = .ok (.iconst 1, 1) := by decide +kernel
theorem dX7_brings_17 : decode cX7_brings 17 = .ok (.iload 6, 2) := by decide +kernel
theorem dX7_brings_19 : decode cX7_brings 19 = .ok (.iadd, 1) := by decide +kernel
theorem dX7_brings_20 : decode cX7_brings 20 = .ok (.iaload, 1) := by decide +kernel
theorem dX7_brings_21 : decode cX7_brings 21 = .ok (.bipush (-9), 2) := by decide +kernel
theorem dX7_brings_23 : decode cX7_brings 23 = .ok (.if_icmp .ne 7, 3) := by decide +kernel
theorem dX7_brings_26 : decode cX7_brings 26 = .ok (.iconst 1, 1) := by decide +kernel
theorem dX7_brings_27 : decode cX7_brings 27 = .ok (.goto 4, 3) := by decide +kernel
theorem dX7_brings_30 : decode cX7_brings 30 = .ok (.iconst 0, 1) := by decide +kernel
theorem dX7_brings_31 : decode cX7_brings 31 = .ok (.iload_n 3, 1) := by decide +kernel
theorem dX7_brings_32 : decode cX7_brings 32 = .ok (.if_icmp .ne 17, 3) := by decide +kernel
theorem dX7_brings_35 : decode cX7_brings 35 = .ok (.aload_n 0, 1) := by decide +kernel
theorem dX7_brings_36 : decode cX7_brings 36 = .ok (.getfield 7, 3) := by decide +kernel
theorem dX7_brings_39 : decode cX7_brings 39 = .ok (.iconst 1, 1) := by decide +kernel
theorem dX7_brings_40 : decode cX7_brings 40 = .ok (.iload 6, 2) := by decide +kernel
theorem dX7_brings_42 : decode cX7_brings 42 = .ok (.iadd, 1) := by decide +kernel
theorem dX7_brings_43 : decode cX7_brings 43 = .ok (.iload 4, 2) := by decide +kernel
theorem dX7_brings_45 : decode cX7_brings 45 = .ok (.iastore, 1) := by decide +kernel
theorem dX7_brings_46 : decode cX7_brings 46 = .ok (.iinc 5 1, 3) := by decide +kernel
theorem dX7_brings_49 : decode cX7_brings 49 = .ok (.iinc 6 1, 3) := by decide +kernel
theorem dX7_brings_52 : decode cX7_brings 52 = .ok (.goto (-46), 3) := by decide +kernel
theorem dX7_brings_55 : decode cX7_brings 55 = .ok (.iload 5, 2) := by decide +kernel
theorem dX7_brings_57 : decode cX7_brings 57 = .ok (.ireturn, 1) := by decide +kernel
set_option maxRecDepth 20000 in
theorem ggX7_give_X7_isGuest : GoodIn wsX7_give wsX7_isGuest := goodIn_r _ [5, 6, 7, 8, 4, 9, 26, 27, 28, 29, 30, 31, 32, 33, 34, 35, 36, 37, 38, 39, 40, 41] (by decide +kernel) (by decide +kernel)
set_option maxRecDepth 20000 in
theorem gX7_give_X7_isGuest : GoodIn wsX7_give (wsV RX7 43 RX7 yX7_isGuest wsX7_isGuest) := goodIn_app (goodIn_of _ (by decide +kernel)) ggX7_give_X7_isGuest
set_option maxRecDepth 20000 in
theorem ggX7_give_X7_isSpan : GoodIn wsX7_give wsX7_isSpan := goodIn_r _ [12, 7, 8, 4, 9] (by decide +kernel) (by decide +kernel)
set_option maxRecDepth 20000 in
theorem gX7_give_X7_isSpan : GoodIn wsX7_give (va_wsS RX7 61 yX7_isSpan wsX7_isSpan) := goodIn_app (goodIn_of _ (by decide +kernel)) ggX7_give_X7_isSpan
set_option maxRecDepth 20000 in
theorem ggX7_give_X7_records : GoodIn wsX7_give wsX7_records := goodIn_r _ [16, 17, 18, 19, 20, 4, 21, 6, 26, 27, 28, 29, 30, 31, 32, 33, 34, 35, 36, 37, 38, 39, 40, 41] (by decide +kernel) (by decide +kernel)
set_option maxRecDepth 20000 in
theorem gX7_give_X7_records : GoodIn wsX7_give (wsV RX7 58 RX7 yX7_records wsX7_records) := goodIn_app (goodIn_of _ (by decide +kernel)) ggX7_give_X7_records
set_option maxRecDepth 20000 in
theorem ggX7_give_X7_brings : GoodIn wsX7_give wsX7_brings := goodIn_r _ [25, 6, 26, 27, 28, 29, 30, 31, 32, 33, 34, 35, 36, 37, 38, 39, 40, 41] (by decide +kernel) (by decide +kernel)
set_option maxRecDepth 20000 in
theorem gX7_give_X7_brings : GoodIn wsX7_give (wsV RX7 82 RX7 yX7_brings wsX7_brings) := goodIn_app (goodIn_of _ (by decide +kernel)) ggX7_give_X7_brings
theorem dX7_give_0 : decode cX7_give 0 = .ok (.aload_n 0, 1) := by decide +kernel
theorem dX7_give_1 : decode cX7_give 1 = .ok (.iload_n 1, 1) := by decide +kernel
theorem dX7_give_2 : decode cX7_give 2 = .ok (.invokevirtual 43, 3) := by decide +kernel
theorem dX7_give_5 : decode cX7_give 5 = .ok (.ifCond .eq 11, 3) := by decide +kernel
theorem dX7_give_8 : decode cX7_give 8 = .ok (.iload_n 2, 1) := by decide +kernel
theorem dX7_give_9 : decode cX7_give 9 = .ok (.iload_n 3, 1) := by decide +kernel
theorem dX7_give_10 : decode cX7_give 10 = .ok (.invokestatic 61, 3) := by decide +kernel
theorem dX7_give_13 : decode cX7_give 13 = .ok (.ifCond .ne 5, 3) := by decide +kernel
theorem dX7_give_16 : decode cX7_give 16 = .ok (.iconst (-1), 1) := by decide +kernel
theorem dX7_give_17 : decode cX7_give 17 = .ok (.ireturn, 1) := by decide +kernel
theorem dX7_give_18 : decode cX7_give 18 = .ok (.aload_n 0, 1) := by decide +kernel
theorem dX7_give_19 : decode cX7_give 19 = .ok (.invokevirtual 58, 3) := by decide +kernel
theorem dX7_give_22 : decode cX7_give 22 = .ok (.aload_n 0, 1) := by decide +kernel
theorem dX7_give_23 : decode cX7_give 23 = .ok (.iload_n 2, 1) := by decide +kernel
theorem dX7_give_24 : decode cX7_give 24 = .ok (.iload_n 3, 1) := by decide +kernel
theorem dX7_give_25 : decode cX7_give 25 = .ok (.iconst 1, 1) := by decide +kernel
theorem dX7_give_26 : decode cX7_give 26 = .ok (.iload_n 1, 1) := by decide +kernel
theorem dX7_give_27 : decode cX7_give 27 = .ok (.invokevirtual 82, 3) := by decide +kernel
theorem dX7_give_30 : decode cX7_give 30 = .ok (.ireturn, 1) := by decide +kernel
set_option maxRecDepth 20000 in
theorem ggX7_putBack_X7_isSpan : GoodIn wsX7_putBack wsX7_isSpan := goodIn_r _ [4, 5, 6, 3, 7] (by decide +kernel) (by decide +kernel)
set_option maxRecDepth 20000 in
theorem gX7_putBack_X7_isSpan : GoodIn wsX7_putBack (va_wsS RX7 61 yX7_isSpan wsX7_isSpan) := goodIn_app (goodIn_of _ (by decide +kernel)) ggX7_putBack_X7_isSpan
set_option maxRecDepth 20000 in
theorem ggX7_putBack_X7_records : GoodIn wsX7_putBack wsX7_records := goodIn_r _ [11, 12, 13, 14, 15, 3, 16, 17, 22, 23, 24, 25, 26, 27, 28, 29, 30, 31, 32, 33, 34, 35, 36, 37] (by decide +kernel) (by decide +kernel)
set_option maxRecDepth 20000 in
theorem gX7_putBack_X7_records : GoodIn wsX7_putBack (wsV RX7 58 RX7 yX7_records wsX7_records) := goodIn_app (goodIn_of _ (by decide +kernel)) ggX7_putBack_X7_records
set_option maxRecDepth 20000 in
theorem ggX7_putBack_X7_brings : GoodIn wsX7_putBack wsX7_brings := goodIn_r _ [21, 17, 22, 23, 24, 25, 26, 27, 28, 29, 30, 31, 32, 33, 34, 35, 36, 37] (by decide +kernel) (by decide +kernel)
set_option maxRecDepth 20000 in
theorem gX7_putBack_X7_brings : GoodIn wsX7_putBack (wsV RX7 82 RX7 yX7_brings wsX7_brings) := goodIn_app (goodIn_of _ (by decide +kernel)) ggX7_putBack_X7_brings
theorem dX7_putBack_0 : decode cX7_putBack 0 = .ok (.iload_n 1, 1) := by decide +kernel
theorem dX7_putBack_1 : decode cX7_putBack 1 = .ok (.iload_n 2, 1) := by decide +kernel
theorem dX7_putBack_2 : decode cX7_putBack 2 = .ok (.invokestatic 61, 3) := by decide +kernel
theorem dX7_putBack_5 : decode cX7_putBack 5 = .ok (.ifCond .ne 5, 3) := by decide +kernel
theorem dX7_putBack_8 : decode cX7_putBack 8 = .ok (.iconst (-1), 1) := by decide +kernel
theorem dX7_putBack_9 : decode cX7_putBack 9 = .ok (.ireturn, 1) := by decide +kernel
theorem dX7_putBack_10 : decode cX7_putBack 10 = .ok (.aload_n 0, 1) := by decide +kernel
theorem dX7_putBack_11 : decode cX7_putBack 11 = .ok (.invokevirtual 58, 3) := by decide +kernel
theorem dX7_putBack_14 : decode cX7_putBack 14 = .ok (.aload_n 0, 1) := by decide +kernel
theorem dX7_putBack_15 : decode cX7_putBack 15 = .ok (.iload_n 1, 1) := by decide +kernel
theorem dX7_putBack_16 : decode cX7_putBack 16 = .ok (.iload_n 2, 1) := by decide +kernel
theorem dX7_putBack_17 : decode cX7_putBack 17 = .ok (.iconst 0, 1) := by decide +kernel
theorem dX7_putBack_18 : decode cX7_putBack 18 = .ok (.bipush (-9), 2) := by decide +kernel
theorem dX7_putBack_20 : decode cX7_putBack 20 = .ok (.invokevirtual 82, 3) := by decide +kernel
theorem dX7_putBack_23 : decode cX7_putBack 23 = .ok (.ireturn, 1) := by decide +kernel
set_option maxRecDepth 20000 in
theorem ggX7_isMove_X7_in : GoodIn wsX7_isMove wsX7_in := goodIn_r _ [5] (by decide +kernel) (by decide +kernel)
set_option maxRecDepth 20000 in
theorem gX7_isMove_X7_in : GoodIn wsX7_isMove (va_wsS RX7 39 yX7_in wsX7_in) := goodIn_app (goodIn_of _ (by decide +kernel)) ggX7_isMove_X7_in
theorem dX7_isMove_0 : decode cX7_isMove 0 = .ok (.iload_n 1, 1) := by decide +kernel
theorem dX7_isMove_1 : decode cX7_isMove 1 = .ok (.iconst 1, 1) := by decide +kernel
theorem dX7_isMove_2 : decode cX7_isMove 2 = .ok (.bipush 100, 2) := by decide +kernel
theorem dX7_isMove_4 : decode cX7_isMove 4 = .ok (.invokestatic 39, 3) := by decide +kernel
theorem dX7_isMove_7 : decode cX7_isMove 7 = .ok (.ifCond .eq 25, 3) := by decide +kernel
theorem dX7_isMove_10 : decode cX7_isMove 10 = .ok (.iload_n 2, 1) := by decide +kernel
theorem dX7_isMove_11 : decode cX7_isMove 11 = .ok (.iconst 1, 1) := by decide +kernel
theorem dX7_isMove_12 : decode cX7_isMove 12 = .ok (.iconst 1, 1) := by decide +kernel
theorem dX7_isMove_13 : decode cX7_isMove 13 = .ok (.aload_n 0, 1) := by decide +kernel
theorem dX7_isMove_14 : decode cX7_isMove 14 = .ok (.getfield 7, 3) := by decide +kernel
theorem dX7_isMove_17 : decode cX7_isMove 17 = .ok (.iconst 0, 1) := by decide +kernel
theorem dX7_isMove_18 : decode cX7_isMove 18 = .ok (.iaload, 1) := by decide +kernel
theorem dX7_isMove_19 : decode cX7_isMove 19 = .ok (.ishl, 1) := by decide +kernel
theorem dX7_isMove_20 : decode cX7_isMove 20 = .ok (.iconst 1, 1) := by decide +kernel
theorem dX7_isMove_21 : decode cX7_isMove 21 = .ok (.isub, 1) := by decide +kernel
theorem dX7_isMove_22 : decode cX7_isMove 22 = .ok (.invokestatic 39, 3) := by decide +kernel
theorem dX7_isMove_25 : decode cX7_isMove 25 = .ok (.ifCond .eq 7, 3) := by decide +kernel
theorem dX7_isMove_28 : decode cX7_isMove 28 = .ok (.iconst 1, 1) := by decide +kernel
theorem dX7_isMove_29 : decode cX7_isMove 29 = .ok (.goto 4, 3) := by decide +kernel
theorem dX7_isMove_32 : decode cX7_isMove 32 = .ok (.iconst 0, 1) := by decide +kernel
theorem dX7_isMove_33 : decode cX7_isMove 33 = .ok (.ireturn, 1) := by decide +kernel
set_option maxRecDepth 20000 in
theorem ggX7_caller_X7_valueOf : GoodIn wsX7_caller wsX7_valueOf := goodIn_r _ [6, 1, 15, 16, 17, 18, 19, 20, 21, 22, 23, 24, 25, 26, 27, 28, 29, 30] (by decide +kernel) (by decide +kernel)
set_option maxRecDepth 20000 in
theorem gX7_caller_X7_valueOf : GoodIn wsX7_caller (wsV RX7 47 RX7 yX7_valueOf wsX7_valueOf) := goodIn_app (goodIn_of _ (by decide +kernel)) ggX7_caller_X7_valueOf
set_option maxRecDepth 20000 in
theorem ggX7_caller_X7_total : GoodIn wsX7_caller wsX7_total := goodIn_r _ [10, 11, 12, 13, 5, 14, 2, 3, 4, 6, 1, 15, 16, 17, 18, 19, 20, 21, 22, 23, 24, 25, 26, 27, 28, 29, 30] (by decide +kernel) (by decide +kernel)
set_option maxRecDepth 20000 in
theorem gX7_caller_X7_total : GoodIn wsX7_caller (wsV RX7 65 RX7 yX7_total wsX7_total) := goodIn_app (goodIn_of _ (by decide +kernel)) ggX7_caller_X7_total
theorem dX7_caller_0 : decode cX7_caller 0 = .ok (.iconst 0, 1) := by decide +kernel
theorem dX7_caller_1 : decode cX7_caller 1 = .ok (.istore 5, 2) := by decide +kernel
theorem dX7_caller_3 : decode cX7_caller 3 = .ok (.iload 5, 2) := by decide +kernel
theorem dX7_caller_5 : decode cX7_caller 5 = .ok (.aload_n 0, 1) := by decide +kernel
theorem dX7_caller_6 : decode cX7_caller 6 = .ok (.getfield 7, 3) := by decide +kernel
theorem dX7_caller_9 : decode cX7_caller 9 = .ok (.iconst 0, 1) := by decide +kernel
theorem dX7_caller_10 : decode cX7_caller 10 = .ok (.iaload, 1) := by decide +kernel
theorem dX7_caller_11 : decode cX7_caller 11 = .ok (.if_icmp .ge 88, 3) := by decide +kernel
theorem dX7_caller_14 : decode cX7_caller 14 = .ok (.iconst 0, 1) := by decide +kernel
theorem dX7_caller_15 : decode cX7_caller 15 = .ok (.istore 6, 2) := by decide +kernel
theorem dX7_caller_17 : decode cX7_caller 17 = .ok (.iload_n 3, 1) := by decide +kernel
theorem dX7_caller_18 : decode cX7_caller 18 = .ok (.istore 7, 2) := by decide +kernel
theorem dX7_caller_20 : decode cX7_caller 20 = .ok (.iload 7, 2) := by decide +kernel
theorem dX7_caller_22 : decode cX7_caller 22 = .ok (.iload 4, 2) := by decide +kernel
theorem dX7_caller_24 : decode cX7_caller 24 = .ok (.if_icmp .gt 40, 3) := by decide +kernel
theorem dX7_caller_27 : decode cX7_caller 27 = .ok (.iload 6, 2) := by decide +kernel
theorem dX7_caller_29 : decode cX7_caller 29 = .ok (.aload_n 0, 1) := by decide +kernel
theorem dX7_caller_30 : decode cX7_caller 30 = .ok (.getfield 7, 3) := by decide +kernel
theorem dX7_caller_33 : decode cX7_caller 33 = .ok (.iconst 1, 1) := by decide +kernel
theorem dX7_caller_34 : decode cX7_caller 34 = .ok (.iload 7, 2) := by decide +kernel
theorem dX7_caller_36 : decode cX7_caller 36 = .ok (.iadd, 1) := by decide +kernel
theorem dX7_caller_37 : decode cX7_caller 37 = .ok (.iaload, 1) := by decide +kernel
theorem dX7_caller_38 : decode cX7_caller 38 = .ok (.bipush (-9), 2) := by decide +kernel
theorem dX7_caller_40 : decode cX7_caller 40 = .ok (.if_icmp .ne 14, 3) := by decide +kernel
theorem dX7_caller_43 : decode cX7_caller 43 = .ok (.aload_n 0, 1) := by decide +kernel
theorem dX7_caller_44 : decode cX7_caller 44 = .ok (.iload 5, 2) := by decide +kernel
theorem dX7_caller_46 : decode cX7_caller 46 = .ok (.iload 7, 2) := by decide +kernel
theorem dX7_caller_48 : decode cX7_caller 48 = .ok (.invokevirtual 47, 3) := by decide +kernel
theorem dX7_caller_51 : decode cX7_caller 51 = .ok (.goto 4, 3) := by decide +kernel
theorem dX7_caller_54 : decode cX7_caller 54 = .ok (.iconst 0, 1) := by decide +kernel
theorem dX7_caller_55 : decode cX7_caller 55 = .ok (.iadd, 1) := by decide +kernel
theorem dX7_caller_56 : decode cX7_caller 56 = .ok (.istore 6, 2) := by decide +kernel
theorem dX7_caller_58 : decode cX7_caller 58 = .ok (.iinc 7 1, 3) := by decide +kernel
theorem dX7_caller_61 : decode cX7_caller 61 = .ok (.goto (-41), 3) := by decide +kernel
theorem dX7_caller_64 : decode cX7_caller 64 = .ok (.iload_n 2, 1) := by decide +kernel
theorem dX7_caller_65 : decode cX7_caller 65 = .ok (.iload 5, 2) := by decide +kernel
theorem dX7_caller_67 : decode cX7_caller 67 = .ok (.ishr, 1) := by decide +kernel
theorem dX7_caller_68 : decode cX7_caller 68 = .ok (.iconst 1, 1) := by decide +kernel
theorem dX7_caller_69 : decode cX7_caller 69 = .ok (.iand, 1) := by decide +kernel
theorem dX7_caller_70 : decode cX7_caller 70 = .ok (.iconst 1, 1) := by decide +kernel
theorem dX7_caller_71 : decode cX7_caller 71 = .ok (.if_icmp .ne 22, 3) := by decide +kernel
theorem dX7_caller_74 : decode cX7_caller 74 = .ok (.bipush 100, 2) := by decide +kernel
theorem dX7_caller_76 : decode cX7_caller 76 = .ok (.iload 6, 2) := by decide +kernel
theorem dX7_caller_78 : decode cX7_caller 78 = .ok (.imul, 1) := by decide +kernel
theorem dX7_caller_79 : decode cX7_caller 79 = .ok (.iload_n 1, 1) := by decide +kernel
theorem dX7_caller_80 : decode cX7_caller 80 = .ok (.aload_n 0, 1) := by decide +kernel
theorem dX7_caller_81 : decode cX7_caller 81 = .ok (.iload 5, 2) := by decide +kernel
theorem dX7_caller_83 : decode cX7_caller 83 = .ok (.invokevirtual 65, 3) := by decide +kernel
theorem dX7_caller_86 : decode cX7_caller 86 = .ok (.imul, 1) := by decide +kernel
theorem dX7_caller_87 : decode cX7_caller 87 = .ok (.if_icmp .lt 6, 3) := by decide +kernel
theorem dX7_caller_90 : decode cX7_caller 90 = .ok (.iload 5, 2) := by decide +kernel
theorem dX7_caller_92 : decode cX7_caller 92 = .ok (.ireturn, 1) := by decide +kernel
theorem dX7_caller_93 : decode cX7_caller 93 = .ok (.iinc 5 1, 3) := by decide +kernel
theorem dX7_caller_96 : decode cX7_caller 96 = .ok (.goto (-93), 3) := by decide +kernel
theorem dX7_caller_99 : decode cX7_caller 99 = .ok (.bipush (-9), 2) := by decide +kernel
theorem dX7_caller_101 : decode cX7_caller 101 = .ok (.ireturn, 1) := by decide +kernel
set_option maxRecDepth 20000 in
theorem ggX7_moves_X7_caller : GoodIn wsX7_moves wsX7_caller := goodIn_r _ [6, 1, 7, 8, 9, 5, 10, 11, 12, 13, 14, 15, 16, 17, 18, 23, 24, 25, 26, 27, 28, 29, 30, 31, 32, 33, 34, 35, 36, 37, 38] (by decide +kernel) (by decide +kernel)
set_option maxRecDepth 20000 in
theorem gX7_moves_X7_caller : GoodIn wsX7_moves (wsV RX7 86 RX7 yX7_caller wsX7_caller) := goodIn_app (goodIn_of _ (by decide +kernel)) ggX7_moves_X7_caller
set_option maxRecDepth 20000 in
theorem ggX7_moves_X7_brings : GoodIn wsX7_moves wsX7_brings := goodIn_r _ [22, 1, 23, 24, 25, 26, 27, 28, 29, 30, 31, 32, 33, 34, 35, 36, 37, 38] (by decide +kernel) (by decide +kernel)
set_option maxRecDepth 20000 in
theorem gX7_moves_X7_brings : GoodIn wsX7_moves (wsV RX7 82 RX7 yX7_brings wsX7_brings) := goodIn_app (goodIn_of _ (by decide +kernel)) ggX7_moves_X7_brings
theorem dX7_moves_0 : decode cX7_moves 0 = .ok (.iload_n 2, 1) := by decide +kernel
theorem dX7_moves_1 : decode cX7_moves 1 = .ok (.istore_n 3, 1) := by decide +kernel
theorem dX7_moves_2 : decode cX7_moves 2 = .ok (.iconst 0, 1) := by decide +kernel
theorem dX7_moves_3 : decode cX7_moves 3 = .ok (.istore 4, 2) := by decide +kernel
theorem dX7_moves_5 : decode cX7_moves 5 = .ok (.iconst 0, 1) := by decide +kernel
theorem dX7_moves_6 : decode cX7_moves 6 = .ok (.istore 5, 2) := by decide +kernel
theorem dX7_moves_8 : decode cX7_moves 8 = .ok (.iconst 0, 1) := by decide +kernel
theorem dX7_moves_9 : decode cX7_moves 9 = .ok (.istore 6, 2) := by decide +kernel
theorem dX7_moves_11 : decode cX7_moves 11 = .ok (.iload 6, 2) := by decide +kernel
theorem dX7_moves_13 : decode cX7_moves 13 = .ok (.bipush 24, 2) := by decide +kernel
theorem dX7_moves_15 : decode cX7_moves 15 = .ok (.if_icmp .ge 81, 3) := by decide +kernel
theorem dX7_moves_18 : decode cX7_moves 18 = .ok (.iload_n 3, 1) := by decide +kernel
theorem dX7_moves_19 : decode cX7_moves 19 = .ok (.ifCond .eq 77, 3) := by decide +kernel
theorem dX7_moves_22 : decode cX7_moves 22 = .ok (.aload_n 0, 1) := by decide +kernel
theorem dX7_moves_23 : decode cX7_moves 23 = .ok (.getfield 7, 3) := by decide +kernel
theorem dX7_moves_26 : decode cX7_moves 26 = .ok (.iconst 1, 1) := by decide +kernel
theorem dX7_moves_27 : decode cX7_moves 27 = .ok (.iload 6, 2) := by decide +kernel
theorem dX7_moves_29 : decode cX7_moves 29 = .ok (.iadd, 1) := by decide +kernel
theorem dX7_moves_30 : decode cX7_moves 30 = .ok (.iaload, 1) := by decide +kernel
theorem dX7_moves_31 : decode cX7_moves 31 = .ok (.bipush (-9), 2) := by decide +kernel
theorem dX7_moves_33 : decode cX7_moves 33 = .ok (.if_icmp .ne 16, 3) := by decide +kernel
theorem dX7_moves_36 : decode cX7_moves 36 = .ok (.aload_n 0, 1) := by decide +kernel
theorem dX7_moves_37 : decode cX7_moves 37 = .ok (.iload_n 1, 1) := by decide +kernel
theorem dX7_moves_38 : decode cX7_moves 38 = .ok (.iload_n 3, 1) := by decide +kernel
theorem dX7_moves_39 : decode cX7_moves 39 = .ok (.iload 4, 2) := by decide +kernel
theorem dX7_moves_41 : decode cX7_moves 41 = .ok (.iload 6, 2) := by decide +kernel
theorem dX7_moves_43 : decode cX7_moves 43 = .ok (.invokevirtual 86, 3) := by decide +kernel
theorem dX7_moves_46 : decode cX7_moves 46 = .ok (.goto 5, 3) := by decide +kernel
theorem dX7_moves_49 : decode cX7_moves 49 = .ok (.bipush (-9), 2) := by decide +kernel
theorem dX7_moves_51 : decode cX7_moves 51 = .ok (.istore 7, 2) := by decide +kernel
theorem dX7_moves_53 : decode cX7_moves 53 = .ok (.iload 7, 2) := by decide +kernel
theorem dX7_moves_55 : decode cX7_moves 55 = .ok (.bipush (-9), 2) := by decide +kernel
theorem dX7_moves_57 : decode cX7_moves 57 = .ok (.if_icmp .eq 33, 3) := by decide +kernel
theorem dX7_moves_60 : decode cX7_moves 60 = .ok (.aload_n 0, 1) := by decide +kernel
theorem dX7_moves_61 : decode cX7_moves 61 = .ok (.iload 4, 2) := by decide +kernel
theorem dX7_moves_63 : decode cX7_moves 63 = .ok (.iload 6, 2) := by decide +kernel
theorem dX7_moves_65 : decode cX7_moves 65 = .ok (.iconst 1, 1) := by decide +kernel
theorem dX7_moves_66 : decode cX7_moves 66 = .ok (.iload 7, 2) := by decide +kernel
theorem dX7_moves_68 : decode cX7_moves 68 = .ok (.invokevirtual 82, 3) := by decide +kernel
theorem dX7_moves_71 : decode cX7_moves 71 = .ok (.pop, 1) := by decide +kernel
theorem dX7_moves_72 : decode cX7_moves 72 = .ok (.iload_n 3, 1) := by decide +kernel
theorem dX7_moves_73 : decode cX7_moves 73 = .ok (.iconst 1, 1) := by decide +kernel
theorem dX7_moves_74 : decode cX7_moves 74 = .ok (.iload 7, 2) := by decide +kernel
theorem dX7_moves_76 : decode cX7_moves 76 = .ok (.ishl, 1) := by decide +kernel
theorem dX7_moves_77 : decode cX7_moves 77 = .ok (.iconst (-1), 1) := by decide +kernel
theorem dX7_moves_78 : decode cX7_moves 78 = .ok (.ixor, 1) := by decide +kernel
theorem dX7_moves_79 : decode cX7_moves 79 = .ok (.iand, 1) := by decide +kernel
theorem dX7_moves_80 : decode cX7_moves 80 = .ok (.istore_n 3, 1) := by decide +kernel
theorem dX7_moves_81 : decode cX7_moves 81 = .ok (.iload 6, 2) := by decide +kernel
theorem dX7_moves_83 : decode cX7_moves 83 = .ok (.iconst 1, 1) := by decide +kernel
theorem dX7_moves_84 : decode cX7_moves 84 = .ok (.iadd, 1) := by decide +kernel
theorem dX7_moves_85 : decode cX7_moves 85 = .ok (.istore 4, 2) := by decide +kernel
theorem dX7_moves_87 : decode cX7_moves 87 = .ok (.iinc 5 1, 3) := by decide +kernel
theorem dX7_moves_90 : decode cX7_moves 90 = .ok (.iinc 6 1, 3) := by decide +kernel
theorem dX7_moves_93 : decode cX7_moves 93 = .ok (.goto (-82), 3) := by decide +kernel
theorem dX7_moves_96 : decode cX7_moves 96 = .ok (.iload 5, 2) := by decide +kernel
theorem dX7_moves_98 : decode cX7_moves 98 = .ok (.ireturn, 1) := by decide +kernel
set_option maxRecDepth 20000 in
theorem ggX7_move_X7_isMove : GoodIn wsX7_move wsX7_isMove := goodIn_r _ [5, 6, 7, 8, 4, 9, 43, 44, 45, 46, 47, 48, 49, 50, 51, 52, 53, 54, 55, 56, 57, 58] (by decide +kernel) (by decide +kernel)
set_option maxRecDepth 20000 in
theorem gX7_move_X7_isMove : GoodIn wsX7_move (wsV RX7 90 RX7 yX7_isMove wsX7_isMove) := goodIn_app (goodIn_of _ (by decide +kernel)) ggX7_move_X7_isMove
set_option maxRecDepth 20000 in
theorem ggX7_move_X7_records : GoodIn wsX7_move wsX7_records := goodIn_r _ [13, 14, 15, 16, 17, 4, 18, 6, 43, 44, 45, 46, 47, 48, 49, 50, 51, 52, 53, 54, 55, 56, 57, 58] (by decide +kernel) (by decide +kernel)
set_option maxRecDepth 20000 in
theorem gX7_move_X7_records : GoodIn wsX7_move (wsV RX7 58 RX7 yX7_records wsX7_records) := goodIn_app (goodIn_of _ (by decide +kernel)) ggX7_move_X7_records
set_option maxRecDepth 20000 in
theorem ggX7_move_X7_moves : GoodIn wsX7_move wsX7_moves := goodIn_r _ [22, 6, 23, 24, 25, 4, 26, 27, 28, 29, 30, 31, 32, 33, 34, 35, 36, 37, 38, 39, 40, 41, 42, 43, 44, 45, 46, 47, 48, 49, 50, 51, 52, 53, 54, 55, 56, 57, 58] (by decide +kernel) (by decide +kernel)
set_option maxRecDepth 20000 in
theorem gX7_move_X7_moves : GoodIn wsX7_move (wsV RX7 93 RX7 yX7_moves wsX7_moves) := goodIn_app (goodIn_of _ (by decide +kernel)) ggX7_move_X7_moves
theorem dX7_move_0 : decode cX7_move 0 = .ok (.aload_n 0, 1) := by decide +kernel
theorem dX7_move_1 : decode cX7_move 1 = .ok (.iload_n 1, 1) := by decide +kernel
theorem dX7_move_2 : decode cX7_move 2 = .ok (.iload_n 2, 1) := by decide +kernel
theorem dX7_move_3 : decode cX7_move 3 = .ok (.invokevirtual 90, 3) := by decide +kernel
theorem dX7_move_6 : decode cX7_move 6 = .ok (.ifCond .ne 5, 3) := by decide +kernel
theorem dX7_move_9 : decode cX7_move 9 = .ok (.iconst (-1), 1) := by decide +kernel
theorem dX7_move_10 : decode cX7_move 10 = .ok (.ireturn, 1) := by decide +kernel
theorem dX7_move_11 : decode cX7_move 11 = .ok (.aload_n 0, 1) := by decide +kernel
theorem dX7_move_12 : decode cX7_move 12 = .ok (.invokevirtual 58, 3) := by decide +kernel
theorem dX7_move_15 : decode cX7_move 15 = .ok (.aload_n 0, 1) := by decide +kernel
theorem dX7_move_16 : decode cX7_move 16 = .ok (.iload_n 1, 1) := by decide +kernel
theorem dX7_move_17 : decode cX7_move 17 = .ok (.iload_n 2, 1) := by decide +kernel
theorem dX7_move_18 : decode cX7_move 18 = .ok (.invokevirtual 93, 3) := by decide +kernel
theorem dX7_move_21 : decode cX7_move 21 = .ok (.ireturn, 1) := by decide +kernel
set_option maxRecDepth 20000 in
theorem ggX7_cutAt_X7_spanValue : GoodIn wsX7_cutAt wsX7_spanValue := goodIn_r _ [5, 6, 7, 8, 4, 9, 10, 11, 12, 13, 14, 15, 16, 17, 18, 19, 20, 21, 22, 23, 24, 25, 26] (by decide +kernel) (by decide +kernel)
set_option maxRecDepth 20000 in
theorem gX7_cutAt_X7_spanValue : GoodIn wsX7_cutAt (wsV RX7 51 RX7 yX7_spanValue wsX7_spanValue) := goodIn_app (goodIn_of _ (by decide +kernel)) ggX7_cutAt_X7_spanValue
theorem dX7_cutAt_0 : decode cX7_cutAt 0 = .ok (.bipush (-9), 2) := by decide +kernel
theorem dX7_cutAt_2 : decode cX7_cutAt 2 = .ok (.istore 4, 2) := by decide +kernel
theorem dX7_cutAt_4 : decode cX7_cutAt 4 = .ok (.iconst 0, 1) := by decide +kernel
theorem dX7_cutAt_5 : decode cX7_cutAt 5 = .ok (.istore 5, 2) := by decide +kernel
theorem dX7_cutAt_7 : decode cX7_cutAt 7 = .ok (.iload_n 2, 1) := by decide +kernel
theorem dX7_cutAt_8 : decode cX7_cutAt 8 = .ok (.iconst 1, 1) := by decide +kernel
theorem dX7_cutAt_9 : decode cX7_cutAt 9 = .ok (.iadd, 1) := by decide +kernel
theorem dX7_cutAt_10 : decode cX7_cutAt 10 = .ok (.istore 6, 2) := by decide +kernel
theorem dX7_cutAt_12 : decode cX7_cutAt 12 = .ok (.iload 6, 2) := by decide +kernel
theorem dX7_cutAt_14 : decode cX7_cutAt 14 = .ok (.iload_n 3, 1) := by decide +kernel
theorem dX7_cutAt_15 : decode cX7_cutAt 15 = .ok (.if_icmp .gt 84, 3) := by decide +kernel
theorem dX7_cutAt_18 : decode cX7_cutAt 18 = .ok (.aload_n 0, 1) := by decide +kernel
theorem dX7_cutAt_19 : decode cX7_cutAt 19 = .ok (.iload_n 1, 1) := by decide +kernel
theorem dX7_cutAt_20 : decode cX7_cutAt 20 = .ok (.iload_n 2, 1) := by decide +kernel
theorem dX7_cutAt_21 : decode cX7_cutAt 21 = .ok (.iload 6, 2) := by decide +kernel
theorem dX7_cutAt_23 : decode cX7_cutAt 23 = .ok (.invokevirtual 51, 3) := by decide +kernel
theorem dX7_cutAt_26 : decode cX7_cutAt 26 = .ok (.aload_n 0, 1) := by decide +kernel
theorem dX7_cutAt_27 : decode cX7_cutAt 27 = .ok (.iload_n 1, 1) := by decide +kernel
theorem dX7_cutAt_28 : decode cX7_cutAt 28 = .ok (.iload 6, 2) := by decide +kernel
theorem dX7_cutAt_30 : decode cX7_cutAt 30 = .ok (.iload_n 3, 1) := by decide +kernel
theorem dX7_cutAt_31 : decode cX7_cutAt 31 = .ok (.iconst 1, 1) := by decide +kernel
theorem dX7_cutAt_32 : decode cX7_cutAt 32 = .ok (.iadd, 1) := by decide +kernel
theorem dX7_cutAt_33 : decode cX7_cutAt 33 = .ok (.invokevirtual 51, 3) := by decide +kernel
theorem dX7_cutAt_36 : decode cX7_cutAt 36 = .ok (.isub, 1) := by decide +kernel
theorem dX7_cutAt_37 : decode cX7_cutAt 37 = .ok (.istore 7, 2) := by decide +kernel
theorem dX7_cutAt_39 : decode cX7_cutAt 39 = .ok (.iload 7, 2) := by decide +kernel
theorem dX7_cutAt_41 : decode cX7_cutAt 41 = .ok (.ifCond .ge 9, 3) := by decide +kernel
theorem dX7_cutAt_44 : decode cX7_cutAt 44 = .ok (.iload 7, 2) := by decide +kernel
theorem dX7_cutAt_46 : decode cX7_cutAt 46 = .ok (.ineg, 1) := by decide +kernel
theorem dX7_cutAt_47 : decode cX7_cutAt 47 = .ok (.goto 5, 3) := by decide +kernel
theorem dX7_cutAt_50 : decode cX7_cutAt 50 = .ok (.iload 7, 2) := by decide +kernel
theorem dX7_cutAt_52 : decode cX7_cutAt 52 = .ok (.istore 7, 2) := by decide +kernel
theorem dX7_cutAt_54 : decode cX7_cutAt 54 = .ok (.iload 4, 2) := by decide +kernel
theorem dX7_cutAt_56 : decode cX7_cutAt 56 = .ok (.bipush (-9), 2) := by decide +kernel
theorem dX7_cutAt_58 : decode cX7_cutAt 58 = .ok (.if_icmp .eq 10, 3) := by decide +kernel
theorem dX7_cutAt_61 : decode cX7_cutAt 61 = .ok (.iload 7, 2) := by decide +kernel
theorem dX7_cutAt_63 : decode cX7_cutAt 63 = .ok (.iload 5, 2) := by decide +kernel
theorem dX7_cutAt_65 : decode cX7_cutAt 65 = .ok (.if_icmp .ge 8, 3) := by decide +kernel
theorem dX7_cutAt_68 : decode cX7_cutAt 68 = .ok (.iload 6, 2) := by decide +kernel
theorem dX7_cutAt_70 : decode cX7_cutAt 70 = .ok (.goto 5, 3) := by decide +kernel
theorem dX7_cutAt_73 : decode cX7_cutAt 73 = .ok (.iload 4, 2) := by decide +kernel
theorem dX7_cutAt_75 : decode cX7_cutAt 75 = .ok (.istore 4, 2) := by decide +kernel
theorem dX7_cutAt_77 : decode cX7_cutAt 77 = .ok (.iload 4, 2) := by decide +kernel
theorem dX7_cutAt_79 : decode cX7_cutAt 79 = .ok (.iload 6, 2) := by decide +kernel
theorem dX7_cutAt_81 : decode cX7_cutAt 81 = .ok (.if_icmp .ne 8, 3) := by decide +kernel
theorem dX7_cutAt_84 : decode cX7_cutAt 84 = .ok (.iload 7, 2) := by decide +kernel
theorem dX7_cutAt_86 : decode cX7_cutAt 86 = .ok (.goto 5, 3) := by decide +kernel
theorem dX7_cutAt_89 : decode cX7_cutAt 89 = .ok (.iload 5, 2) := by decide +kernel
theorem dX7_cutAt_91 : decode cX7_cutAt 91 = .ok (.istore 5, 2) := by decide +kernel
theorem dX7_cutAt_93 : decode cX7_cutAt 93 = .ok (.iinc 6 1, 3) := by decide +kernel
theorem dX7_cutAt_96 : decode cX7_cutAt 96 = .ok (.goto (-84), 3) := by decide +kernel
theorem dX7_cutAt_99 : decode cX7_cutAt 99 = .ok (.iload 4, 2) := by decide +kernel
theorem dX7_cutAt_101 : decode cX7_cutAt 101 = .ok (.ireturn, 1) := by decide +kernel
set_option maxRecDepth 20000 in
theorem ggX7_cut_X7_areGuests : GoodIn wsX7_cut wsX7_areGuests := goodIn_r _ [6, 7, 8, 9, 5, 10, 1, 11, 12, 13, 39, 40, 41, 42, 43, 44, 45, 46, 47, 48, 49, 50, 51, 52, 53, 54] (by decide +kernel) (by decide +kernel)
set_option maxRecDepth 20000 in
theorem gX7_cut_X7_areGuests : GoodIn wsX7_cut (wsV RX7 96 RX7 yX7_areGuests wsX7_areGuests) := goodIn_app (goodIn_of _ (by decide +kernel)) ggX7_cut_X7_areGuests
set_option maxRecDepth 20000 in
theorem ggX7_cut_X7_in : GoodIn wsX7_cut wsX7_in := goodIn_r _ [13] (by decide +kernel) (by decide +kernel)
set_option maxRecDepth 20000 in
theorem gX7_cut_X7_in : GoodIn wsX7_cut (va_wsS RX7 39 yX7_in wsX7_in) := goodIn_app (goodIn_of _ (by decide +kernel)) ggX7_cut_X7_in
set_option maxRecDepth 20000 in
theorem ggX7_cut_X7_records : GoodIn wsX7_cut wsX7_records := goodIn_r _ [17, 18, 19, 20, 21, 5, 22, 1, 39, 40, 41, 42, 43, 44, 45, 46, 47, 48, 49, 50, 51, 52, 53, 54] (by decide +kernel) (by decide +kernel)
set_option maxRecDepth 20000 in
theorem gX7_cut_X7_records : GoodIn wsX7_cut (wsV RX7 58 RX7 yX7_records wsX7_records) := goodIn_app (goodIn_of _ (by decide +kernel)) ggX7_cut_X7_records
set_option maxRecDepth 20000 in
theorem ggX7_cut_X7_cutAt : GoodIn wsX7_cut wsX7_cutAt := goodIn_r _ [26, 27, 28, 29, 5, 30, 31, 32, 33, 34, 1, 39, 40, 41, 42, 43, 44, 45, 46, 47, 48, 49, 50, 51, 52, 53, 54] (by decide +kernel) (by decide +kernel)
set_option maxRecDepth 20000 in
theorem gX7_cut_X7_cutAt : GoodIn wsX7_cut (wsV RX7 99 RX7 yX7_cutAt wsX7_cutAt) := goodIn_app (goodIn_of _ (by decide +kernel)) ggX7_cut_X7_cutAt
set_option maxRecDepth 20000 in
theorem ggX7_cut_X7_spanValue : GoodIn wsX7_cut wsX7_spanValue := goodIn_r _ [30, 31, 32, 33, 5, 34, 1, 39, 40, 41, 42, 43, 44, 45, 46, 47, 48, 49, 50, 51, 52, 53, 54] (by decide +kernel) (by decide +kernel)
set_option maxRecDepth 20000 in
theorem gX7_cut_X7_spanValue : GoodIn wsX7_cut (wsV RX7 51 RX7 yX7_spanValue wsX7_spanValue) := goodIn_app (goodIn_of _ (by decide +kernel)) ggX7_cut_X7_spanValue
set_option maxRecDepth 20000 in
theorem ggX7_cut_X7_brings : GoodIn wsX7_cut wsX7_brings := goodIn_r _ [38, 1, 39, 40, 41, 42, 43, 44, 45, 46, 47, 48, 49, 50, 51, 52, 53, 54] (by decide +kernel) (by decide +kernel)
set_option maxRecDepth 20000 in
theorem gX7_cut_X7_brings : GoodIn wsX7_cut (wsV RX7 82 RX7 yX7_brings wsX7_brings) := goodIn_app (goodIn_of _ (by decide +kernel)) ggX7_cut_X7_brings
theorem dX7_cut_0 : decode cX7_cut 0 = .ok (.aload_n 0, 1) := by decide +kernel
theorem dX7_cut_1 : decode cX7_cut 1 = .ok (.iload_n 1, 1) := by decide +kernel
theorem dX7_cut_2 : decode cX7_cut 2 = .ok (.iload_n 2, 1) := by decide +kernel
theorem dX7_cut_3 : decode cX7_cut 3 = .ok (.invokevirtual 96, 3) := by decide +kernel
theorem dX7_cut_6 : decode cX7_cut 6 = .ok (.ifCond .eq 26, 3) := by decide +kernel
theorem dX7_cut_9 : decode cX7_cut 9 = .ok (.iload_n 3, 1) := by decide +kernel
theorem dX7_cut_10 : decode cX7_cut 10 = .ok (.iconst 0, 1) := by decide +kernel
theorem dX7_cut_11 : decode cX7_cut 11 = .ok (.bipush 22, 2) := by decide +kernel
theorem dX7_cut_13 : decode cX7_cut 13 = .ok (.invokestatic 39, 3) := by decide +kernel
theorem dX7_cut_16 : decode cX7_cut 16 = .ok (.ifCond .eq 16, 3) := by decide +kernel
theorem dX7_cut_19 : decode cX7_cut 19 = .ok (.iload 4, 2) := by decide +kernel
theorem dX7_cut_21 : decode cX7_cut 21 = .ok (.iload_n 3, 1) := by decide +kernel
theorem dX7_cut_22 : decode cX7_cut 22 = .ok (.iconst 1, 1) := by decide +kernel
theorem dX7_cut_23 : decode cX7_cut 23 = .ok (.iadd, 1) := by decide +kernel
theorem dX7_cut_24 : decode cX7_cut 24 = .ok (.bipush 23, 2) := by decide +kernel
theorem dX7_cut_26 : decode cX7_cut 26 = .ok (.invokestatic 39, 3) := by decide +kernel
theorem dX7_cut_29 : decode cX7_cut 29 = .ok (.ifCond .ne 5, 3) := by decide +kernel
theorem dX7_cut_32 : decode cX7_cut 32 = .ok (.iconst (-1), 1) := by decide +kernel
theorem dX7_cut_33 : decode cX7_cut 33 = .ok (.ireturn, 1) := by decide +kernel
theorem dX7_cut_34 : decode cX7_cut 34 = .ok (.iload_n 3, 1) := by decide +kernel
theorem dX7_cut_35 : decode cX7_cut 35 = .ok (.istore 5, 2) := by decide +kernel
theorem dX7_cut_37 : decode cX7_cut 37 = .ok (.iload 5, 2) := by decide +kernel
theorem dX7_cut_39 : decode cX7_cut 39 = .ok (.iload 4, 2) := by decide +kernel
theorem dX7_cut_41 : decode cX7_cut 41 = .ok (.if_icmp .gt 26, 3) := by decide +kernel
theorem dX7_cut_44 : decode cX7_cut 44 = .ok (.aload_n 0, 1) := by decide +kernel
theorem dX7_cut_45 : decode cX7_cut 45 = .ok (.getfield 7, 3) := by decide +kernel
theorem dX7_cut_48 : decode cX7_cut 48 = .ok (.iconst 1, 1) := by decide +kernel
theorem dX7_cut_49 : decode cX7_cut 49 = .ok (.iload 5, 2) := by decide +kernel
theorem dX7_cut_51 : decode cX7_cut 51 = .ok (.iadd, 1) := by decide +kernel
theorem dX7_cut_52 : decode cX7_cut 52 = .ok (.iaload, 1) := by decide +kernel
theorem dX7_cut_53 : decode cX7_cut 53 = .ok (.bipush (-9), 2) := by decide +kernel
theorem dX7_cut_55 : decode cX7_cut 55 = .ok (.if_icmp .eq 6, 3) := by decide +kernel
theorem dX7_cut_58 : decode cX7_cut 58 = .ok (.bipush (-2), 2) := by decide +kernel
theorem dX7_cut_60 : decode cX7_cut 60 = .ok (.ireturn, 1) := by decide +kernel
theorem dX7_cut_61 : decode cX7_cut 61 = .ok (.iinc 5 1, 3) := by decide +kernel
theorem dX7_cut_64 : decode cX7_cut 64 = .ok (.goto (-27), 3) := by decide +kernel
theorem dX7_cut_67 : decode cX7_cut 67 = .ok (.aload_n 0, 1) := by decide +kernel
theorem dX7_cut_68 : decode cX7_cut 68 = .ok (.invokevirtual 58, 3) := by decide +kernel
theorem dX7_cut_71 : decode cX7_cut 71 = .ok (.aload_n 0, 1) := by decide +kernel
theorem dX7_cut_72 : decode cX7_cut 72 = .ok (.iload_n 1, 1) := by decide +kernel
theorem dX7_cut_73 : decode cX7_cut 73 = .ok (.iload_n 3, 1) := by decide +kernel
theorem dX7_cut_74 : decode cX7_cut 74 = .ok (.iload 4, 2) := by decide +kernel
theorem dX7_cut_76 : decode cX7_cut 76 = .ok (.invokevirtual 99, 3) := by decide +kernel
theorem dX7_cut_79 : decode cX7_cut 79 = .ok (.istore 5, 2) := by decide +kernel
theorem dX7_cut_81 : decode cX7_cut 81 = .ok (.aload_n 0, 1) := by decide +kernel
theorem dX7_cut_82 : decode cX7_cut 82 = .ok (.iload_n 2, 1) := by decide +kernel
theorem dX7_cut_83 : decode cX7_cut 83 = .ok (.iload_n 3, 1) := by decide +kernel
theorem dX7_cut_84 : decode cX7_cut 84 = .ok (.iload 5, 2) := by decide +kernel
theorem dX7_cut_86 : decode cX7_cut 86 = .ok (.invokevirtual 51, 3) := by decide +kernel
theorem dX7_cut_89 : decode cX7_cut 89 = .ok (.aload_n 0, 1) := by decide +kernel
theorem dX7_cut_90 : decode cX7_cut 90 = .ok (.iload_n 2, 1) := by decide +kernel
theorem dX7_cut_91 : decode cX7_cut 91 = .ok (.iload 5, 2) := by decide +kernel
theorem dX7_cut_93 : decode cX7_cut 93 = .ok (.iload 4, 2) := by decide +kernel
theorem dX7_cut_95 : decode cX7_cut 95 = .ok (.iconst 1, 1) := by decide +kernel
theorem dX7_cut_96 : decode cX7_cut 96 = .ok (.iadd, 1) := by decide +kernel
theorem dX7_cut_97 : decode cX7_cut 97 = .ok (.invokevirtual 51, 3) := by decide +kernel
theorem dX7_cut_100 : decode cX7_cut 100 = .ok (.if_icmp .lt 7, 3) := by decide +kernel
theorem dX7_cut_103 : decode cX7_cut 103 = .ok (.iconst 1, 1) := by decide +kernel
theorem dX7_cut_104 : decode cX7_cut 104 = .ok (.goto 4, 3) := by decide +kernel
theorem dX7_cut_107 : decode cX7_cut 107 = .ok (.iconst 0, 1) := by decide +kernel
theorem dX7_cut_108 : decode cX7_cut 108 = .ok (.istore 6, 2) := by decide +kernel
theorem dX7_cut_110 : decode cX7_cut 110 = .ok (.aload_n 0, 1) := by decide +kernel
theorem dX7_cut_111 : decode cX7_cut 111 = .ok (.iload_n 3, 1) := by decide +kernel
theorem dX7_cut_112 : decode cX7_cut 112 = .ok (.iload 5, 2) := by decide +kernel
theorem dX7_cut_114 : decode cX7_cut 114 = .ok (.iconst 1, 1) := by decide +kernel
theorem dX7_cut_115 : decode cX7_cut 115 = .ok (.isub, 1) := by decide +kernel
theorem dX7_cut_116 : decode cX7_cut 116 = .ok (.iconst 1, 1) := by decide +kernel
theorem dX7_cut_117 : decode cX7_cut 117 = .ok (.iload 6, 2) := by decide +kernel
theorem dX7_cut_119 : decode cX7_cut 119 = .ok (.ifCond .eq 7, 3) := by decide +kernel
theorem dX7_cut_122 : decode cX7_cut 122 = .ok (.iload_n 2, 1) := by decide +kernel
theorem dX7_cut_123 : decode cX7_cut 123 = .ok (.goto 4, 3) := by decide +kernel
theorem dX7_cut_126 : decode cX7_cut 126 = .ok (.iload_n 1, 1) := by decide +kernel
theorem dX7_cut_127 : decode cX7_cut 127 = .ok (.invokevirtual 82, 3) := by decide +kernel
theorem dX7_cut_130 : decode cX7_cut 130 = .ok (.pop, 1) := by decide +kernel
theorem dX7_cut_131 : decode cX7_cut 131 = .ok (.aload_n 0, 1) := by decide +kernel
theorem dX7_cut_132 : decode cX7_cut 132 = .ok (.iload 5, 2) := by decide +kernel
theorem dX7_cut_134 : decode cX7_cut 134 = .ok (.iload 4, 2) := by decide +kernel
theorem dX7_cut_136 : decode cX7_cut 136 = .ok (.iconst 1, 1) := by decide +kernel
theorem dX7_cut_137 : decode cX7_cut 137 = .ok (.iload 6, 2) := by decide +kernel
theorem dX7_cut_139 : decode cX7_cut 139 = .ok (.ifCond .eq 7, 3) := by decide +kernel
theorem dX7_cut_142 : decode cX7_cut 142 = .ok (.iload_n 1, 1) := by decide +kernel
theorem dX7_cut_143 : decode cX7_cut 143 = .ok (.goto 4, 3) := by decide +kernel
theorem dX7_cut_146 : decode cX7_cut 146 = .ok (.iload_n 2, 1) := by decide +kernel
theorem dX7_cut_147 : decode cX7_cut 147 = .ok (.invokevirtual 82, 3) := by decide +kernel
theorem dX7_cut_150 : decode cX7_cut 150 = .ok (.pop, 1) := by decide +kernel
theorem dX7_cut_151 : decode cX7_cut 151 = .ok (.iload 5, 2) := by decide +kernel
theorem dX7_cut_153 : decode cX7_cut 153 = .ok (.ireturn, 1) := by decide +kernel
set_option maxRecDepth 20000 in
theorem ggX7_trim_X7_areGuests : GoodIn wsX7_trim wsX7_areGuests := goodIn_r _ [6, 7, 8, 9, 5, 10, 1, 11, 12, 13, 35, 36, 37, 38, 39, 40, 41, 42, 43, 44, 45, 46, 47, 48, 49, 50] (by decide +kernel) (by decide +kernel)
set_option maxRecDepth 20000 in
theorem gX7_trim_X7_areGuests : GoodIn wsX7_trim (wsV RX7 96 RX7 yX7_areGuests wsX7_areGuests) := goodIn_app (goodIn_of _ (by decide +kernel)) ggX7_trim_X7_areGuests
set_option maxRecDepth 20000 in
theorem ggX7_trim_X7_records : GoodIn wsX7_trim wsX7_records := goodIn_r _ [17, 18, 19, 20, 21, 5, 22, 1, 35, 36, 37, 38, 39, 40, 41, 42, 43, 44, 45, 46, 47, 48, 49, 50] (by decide +kernel) (by decide +kernel)
set_option maxRecDepth 20000 in
theorem gX7_trim_X7_records : GoodIn wsX7_trim (wsV RX7 58 RX7 yX7_records wsX7_records) := goodIn_app (goodIn_of _ (by decide +kernel)) ggX7_trim_X7_records
set_option maxRecDepth 20000 in
theorem ggX7_trim_X7_envyOf : GoodIn wsX7_trim wsX7_envyOf := goodIn_r _ [26, 27, 28, 29, 5, 30, 1, 31, 32, 33, 34, 35, 36, 37, 38, 39, 40, 41, 42, 43, 44, 45, 46, 47, 48, 49, 50] (by decide +kernel) (by decide +kernel)
set_option maxRecDepth 20000 in
theorem gX7_trim_X7_envyOf : GoodIn wsX7_trim (wsV RX7 102 RX7 yX7_envyOf wsX7_envyOf) := goodIn_app (goodIn_of _ (by decide +kernel)) ggX7_trim_X7_envyOf
theorem dX7_trim_0 : decode cX7_trim 0 = .ok (.aload_n 0, 1) := by decide +kernel
theorem dX7_trim_1 : decode cX7_trim 1 = .ok (.iload_n 1, 1) := by decide +kernel
theorem dX7_trim_2 : decode cX7_trim 2 = .ok (.iload_n 2, 1) := by decide +kernel
theorem dX7_trim_3 : decode cX7_trim 3 = .ok (.invokevirtual 96, 3) := by decide +kernel
theorem dX7_trim_6 : decode cX7_trim 6 = .ok (.ifCond .ne 5, 3) := by decide +kernel
theorem dX7_trim_9 : decode cX7_trim 9 = .ok (.iconst (-1), 1) := by decide +kernel
theorem dX7_trim_10 : decode cX7_trim 10 = .ok (.ireturn, 1) := by decide +kernel
theorem dX7_trim_11 : decode cX7_trim 11 = .ok (.aload_n 0, 1) := by decide +kernel
theorem dX7_trim_12 : decode cX7_trim 12 = .ok (.invokevirtual 58, 3) := by decide +kernel
theorem dX7_trim_15 : decode cX7_trim 15 = .ok (.iconst 0, 1) := by decide +kernel
theorem dX7_trim_16 : decode cX7_trim 16 = .ok (.istore_n 3, 1) := by decide +kernel
theorem dX7_trim_17 : decode cX7_trim 17 = .ok (.bipush 23, 2) := by decide +kernel
theorem dX7_trim_19 : decode cX7_trim 19 = .ok (.istore 4, 2) := by decide +kernel
theorem dX7_trim_21 : decode cX7_trim 21 = .ok (.iload 4, 2) := by decide +kernel
theorem dX7_trim_23 : decode cX7_trim 23 = .ok (.ifCond .lt 45, 3) := by decide +kernel
theorem dX7_trim_26 : decode cX7_trim 26 = .ok (.aload_n 0, 1) := by decide +kernel
theorem dX7_trim_27 : decode cX7_trim 27 = .ok (.getfield 7, 3) := by decide +kernel
theorem dX7_trim_30 : decode cX7_trim 30 = .ok (.iconst 1, 1) := by decide +kernel
theorem dX7_trim_31 : decode cX7_trim 31 = .ok (.iload 4, 2) := by decide +kernel
theorem dX7_trim_33 : decode cX7_trim 33 = .ok (.iadd, 1) := by decide +kernel
theorem dX7_trim_34 : decode cX7_trim 34 = .ok (.iaload, 1) := by decide +kernel
theorem dX7_trim_35 : decode cX7_trim 35 = .ok (.iload_n 1, 1) := by decide +kernel
theorem dX7_trim_36 : decode cX7_trim 36 = .ok (.if_icmp .ne 26, 3) := by decide +kernel
theorem dX7_trim_39 : decode cX7_trim 39 = .ok (.aload_n 0, 1) := by decide +kernel
theorem dX7_trim_40 : decode cX7_trim 40 = .ok (.iload_n 2, 1) := by decide +kernel
theorem dX7_trim_41 : decode cX7_trim 41 = .ok (.iload_n 1, 1) := by decide +kernel
theorem dX7_trim_42 : decode cX7_trim 42 = .ok (.invokevirtual 102, 3) := by decide +kernel
theorem dX7_trim_45 : decode cX7_trim 45 = .ok (.ifCond .le 17, 3) := by decide +kernel
theorem dX7_trim_48 : decode cX7_trim 48 = .ok (.aload_n 0, 1) := by decide +kernel
theorem dX7_trim_49 : decode cX7_trim 49 = .ok (.getfield 7, 3) := by decide +kernel
theorem dX7_trim_52 : decode cX7_trim 52 = .ok (.iconst 1, 1) := by decide +kernel
theorem dX7_trim_53 : decode cX7_trim 53 = .ok (.iload 4, 2) := by decide +kernel
theorem dX7_trim_55 : decode cX7_trim 55 = .ok (.iadd, 1) := by decide +kernel
theorem dX7_trim_56 : decode cX7_trim 56 = .ok (.bipush (-9), 2) := by decide +kernel
theorem dX7_trim_58 : decode cX7_trim 58 = .ok (.iastore, 1) := by decide +kernel
theorem dX7_trim_59 : decode cX7_trim 59 = .ok (.iinc 3 1, 3) := by decide +kernel
theorem dX7_trim_62 : decode cX7_trim 62 = .ok (.iinc 4 (-1), 3) := by decide +kernel
theorem dX7_trim_65 : decode cX7_trim 65 = .ok (.goto (-44), 3) := by decide +kernel
theorem dX7_trim_68 : decode cX7_trim 68 = .ok (.iload_n 3, 1) := by decide +kernel
theorem dX7_trim_69 : decode cX7_trim 69 = .ok (.ireturn, 1) := by decide +kernel
set_option maxRecDepth 20000 in
theorem ggX7_isRing_X7_envyOf : GoodIn wsX7_isRing wsX7_envyOf := goodIn_r _ [7, 8, 9, 10, 6, 11, 2, 12, 13, 14, 15, 16, 17, 18, 19, 20, 21, 22, 23, 24, 25, 26, 27, 28, 29, 30, 31] (by decide +kernel) (by decide +kernel)
set_option maxRecDepth 20000 in
theorem gX7_isRing_X7_envyOf : GoodIn wsX7_isRing (wsV RX7 102 RX7 yX7_envyOf wsX7_envyOf) := goodIn_app (goodIn_of _ (by decide +kernel)) ggX7_isRing_X7_envyOf
theorem dX7_isRing_0 : decode cX7_isRing 0 = .ok (.iload_n 1, 1) := by decide +kernel
theorem dX7_isRing_1 : decode cX7_isRing 1 = .ok (.istore_n 3, 1) := by decide +kernel
theorem dX7_isRing_2 : decode cX7_isRing 2 = .ok (.iconst 0, 1) := by decide +kernel
theorem dX7_isRing_3 : decode cX7_isRing 3 = .ok (.istore 4, 2) := by decide +kernel
theorem dX7_isRing_5 : decode cX7_isRing 5 = .ok (.iload_n 2, 1) := by decide +kernel
theorem dX7_isRing_6 : decode cX7_isRing 6 = .ok (.iconst 1, 1) := by decide +kernel
theorem dX7_isRing_7 : decode cX7_isRing 7 = .ok (.isub, 1) := by decide +kernel
theorem dX7_isRing_8 : decode cX7_isRing 8 = .ok (.istore 5, 2) := by decide +kernel
theorem dX7_isRing_10 : decode cX7_isRing 10 = .ok (.iload 5, 2) := by decide +kernel
theorem dX7_isRing_12 : decode cX7_isRing 12 = .ok (.ifCond .lt 37, 3) := by decide +kernel
theorem dX7_isRing_15 : decode cX7_isRing 15 = .ok (.aload_n 0, 1) := by decide +kernel
theorem dX7_isRing_16 : decode cX7_isRing 16 = .ok (.getfield 19, 3) := by decide +kernel
theorem dX7_isRing_19 : decode cX7_isRing 19 = .ok (.iload 5, 2) := by decide +kernel
theorem dX7_isRing_21 : decode cX7_isRing 21 = .ok (.iload_n 3, 1) := by decide +kernel
theorem dX7_isRing_22 : decode cX7_isRing 22 = .ok (.iconst 4, 1) := by decide +kernel
theorem dX7_isRing_23 : decode cX7_isRing 23 = .ok (.irem, 1) := by decide +kernel
theorem dX7_isRing_24 : decode cX7_isRing 24 = .ok (.iastore, 1) := by decide +kernel
theorem dX7_isRing_25 : decode cX7_isRing 25 = .ok (.iload_n 3, 1) := by decide +kernel
theorem dX7_isRing_26 : decode cX7_isRing 26 = .ok (.iconst 4, 1) := by decide +kernel
theorem dX7_isRing_27 : decode cX7_isRing 27 = .ok (.idiv, 1) := by decide +kernel
theorem dX7_isRing_28 : decode cX7_isRing 28 = .ok (.istore_n 3, 1) := by decide +kernel
theorem dX7_isRing_29 : decode cX7_isRing 29 = .ok (.iload 4, 2) := by decide +kernel
theorem dX7_isRing_31 : decode cX7_isRing 31 = .ok (.iconst 1, 1) := by decide +kernel
theorem dX7_isRing_32 : decode cX7_isRing 32 = .ok (.aload_n 0, 1) := by decide +kernel
theorem dX7_isRing_33 : decode cX7_isRing 33 = .ok (.getfield 19, 3) := by decide +kernel
theorem dX7_isRing_36 : decode cX7_isRing 36 = .ok (.iload 5, 2) := by decide +kernel
theorem dX7_isRing_38 : decode cX7_isRing 38 = .ok (.iaload, 1) := by decide +kernel
theorem dX7_isRing_39 : decode cX7_isRing 39 = .ok (.ishl, 1) := by decide +kernel
theorem dX7_isRing_40 : decode cX7_isRing 40 = .ok (.ior, 1) := by decide +kernel
theorem dX7_isRing_41 : decode cX7_isRing 41 = .ok (.istore 4, 2) := by decide +kernel
theorem dX7_isRing_43 : decode cX7_isRing 43 = .ok (.iinc 5 (-1), 3) := by decide +kernel
theorem dX7_isRing_46 : decode cX7_isRing 46 = .ok (.goto (-36), 3) := by decide +kernel
theorem dX7_isRing_49 : decode cX7_isRing 49 = .ok (.iconst 0, 1) := by decide +kernel
theorem dX7_isRing_50 : decode cX7_isRing 50 = .ok (.istore 5, 2) := by decide +kernel
theorem dX7_isRing_52 : decode cX7_isRing 52 = .ok (.iconst 1, 1) := by decide +kernel
theorem dX7_isRing_53 : decode cX7_isRing 53 = .ok (.istore 6, 2) := by decide +kernel
theorem dX7_isRing_55 : decode cX7_isRing 55 = .ok (.iconst 0, 1) := by decide +kernel
theorem dX7_isRing_56 : decode cX7_isRing 56 = .ok (.istore 7, 2) := by decide +kernel
theorem dX7_isRing_58 : decode cX7_isRing 58 = .ok (.iload 7, 2) := by decide +kernel
theorem dX7_isRing_60 : decode cX7_isRing 60 = .ok (.iload_n 2, 1) := by decide +kernel
theorem dX7_isRing_61 : decode cX7_isRing 61 = .ok (.if_icmp .ge 65, 3) := by decide +kernel
theorem dX7_isRing_64 : decode cX7_isRing 64 = .ok (.iload 5, 2) := by decide +kernel
theorem dX7_isRing_66 : decode cX7_isRing 66 = .ok (.iload 4, 2) := by decide +kernel
theorem dX7_isRing_68 : decode cX7_isRing 68 = .ok (.iload 7, 2) := by decide +kernel
theorem dX7_isRing_70 : decode cX7_isRing 70 = .ok (.ishr, 1) := by decide +kernel
theorem dX7_isRing_71 : decode cX7_isRing 71 = .ok (.iconst 1, 1) := by decide +kernel
theorem dX7_isRing_72 : decode cX7_isRing 72 = .ok (.iand, 1) := by decide +kernel
theorem dX7_isRing_73 : decode cX7_isRing 73 = .ok (.iadd, 1) := by decide +kernel
theorem dX7_isRing_74 : decode cX7_isRing 74 = .ok (.istore 5, 2) := by decide +kernel
theorem dX7_isRing_76 : decode cX7_isRing 76 = .ok (.iload 6, 2) := by decide +kernel
theorem dX7_isRing_78 : decode cX7_isRing 78 = .ok (.ifCond .eq 39, 3) := by decide +kernel
theorem dX7_isRing_81 : decode cX7_isRing 81 = .ok (.aload_n 0, 1) := by decide +kernel
theorem dX7_isRing_82 : decode cX7_isRing 82 = .ok (.getfield 19, 3) := by decide +kernel
theorem dX7_isRing_85 : decode cX7_isRing 85 = .ok (.iload 7, 2) := by decide +kernel
theorem dX7_isRing_87 : decode cX7_isRing 87 = .ok (.iaload, 1) := by decide +kernel
theorem dX7_isRing_88 : decode cX7_isRing 88 = .ok (.aload_n 0, 1) := by decide +kernel
theorem dX7_isRing_89 : decode cX7_isRing 89 = .ok (.getfield 7, 3) := by decide +kernel
theorem dX7_isRing_92 : decode cX7_isRing 92 = .ok (.iconst 0, 1) := by decide +kernel
theorem dX7_isRing_93 : decode cX7_isRing 93 = .ok (.iaload, 1) := by decide +kernel
theorem dX7_isRing_94 : decode cX7_isRing 94 = .ok (.if_icmp .ge 23, 3) := by decide +kernel
theorem dX7_isRing_97 : decode cX7_isRing 97 = .ok (.aload_n 0, 1) := by decide +kernel
theorem dX7_isRing_98 : decode cX7_isRing 98 = .ok (.getfield 19, 3) := by decide +kernel
theorem dX7_isRing_101 : decode cX7_isRing 101 = .ok (.iload 7, 2) := by decide +kernel
theorem dX7_isRing_103 : decode cX7_isRing 103 = .ok (.iaload, 1) := by decide +kernel
theorem dX7_isRing_104 : decode cX7_isRing 104 = .ok (.aload_n 0, 1) := by decide +kernel
theorem dX7_isRing_105 : decode cX7_isRing 105 = .ok (.getfield 19, 3) := by decide +kernel
theorem dX7_isRing_108 : decode cX7_isRing 108 = .ok (.iconst 0, 1) := by decide +kernel
theorem dX7_isRing_109 : decode cX7_isRing 109 = .ok (.iaload, 1) := by decide +kernel
theorem dX7_isRing_110 : decode cX7_isRing 110 = .ok (.if_icmp .lt 7, 3) := by decide +kernel
theorem dX7_isRing_113 : decode cX7_isRing 113 = .ok (.iconst 1, 1) := by decide +kernel
theorem dX7_isRing_114 : decode cX7_isRing 114 = .ok (.goto 4, 3) := by decide +kernel
theorem dX7_isRing_117 : decode cX7_isRing 117 = .ok (.iconst 0, 1) := by decide +kernel
theorem dX7_isRing_118 : decode cX7_isRing 118 = .ok (.istore 6, 2) := by decide +kernel
theorem dX7_isRing_120 : decode cX7_isRing 120 = .ok (.iinc 7 1, 3) := by decide +kernel
theorem dX7_isRing_123 : decode cX7_isRing 123 = .ok (.goto (-65), 3) := by decide +kernel
theorem dX7_isRing_126 : decode cX7_isRing 126 = .ok (.iload_n 2, 1) := by decide +kernel
theorem dX7_isRing_127 : decode cX7_isRing 127 = .ok (.istore 7, 2) := by decide +kernel
theorem dX7_isRing_129 : decode cX7_isRing 129 = .ok (.iload 7, 2) := by decide +kernel
theorem dX7_isRing_131 : decode cX7_isRing 131 = .ok (.iconst 4, 1) := by decide +kernel
theorem dX7_isRing_132 : decode cX7_isRing 132 = .ok (.if_icmp .ge 21, 3) := by decide +kernel
theorem dX7_isRing_135 : decode cX7_isRing 135 = .ok (.iload 5, 2) := by decide +kernel
theorem dX7_isRing_137 : decode cX7_isRing 137 = .ok (.iload 4, 2) := by decide +kernel
theorem dX7_isRing_139 : decode cX7_isRing 139 = .ok (.iload 7, 2) := by decide +kernel
theorem dX7_isRing_141 : decode cX7_isRing 141 = .ok (.ishr, 1) := by decide +kernel
theorem dX7_isRing_142 : decode cX7_isRing 142 = .ok (.iconst 1, 1) := by decide +kernel
theorem dX7_isRing_143 : decode cX7_isRing 143 = .ok (.iand, 1) := by decide +kernel
theorem dX7_isRing_144 : decode cX7_isRing 144 = .ok (.iadd, 1) := by decide +kernel
theorem dX7_isRing_145 : decode cX7_isRing 145 = .ok (.istore 5, 2) := by decide +kernel
theorem dX7_isRing_147 : decode cX7_isRing 147 = .ok (.iinc 7 1, 3) := by decide +kernel
theorem dX7_isRing_150 : decode cX7_isRing 150 = .ok (.goto (-21), 3) := by decide +kernel
theorem dX7_isRing_153 : decode cX7_isRing 153 = .ok (.iload 6, 2) := by decide +kernel
theorem dX7_isRing_155 : decode cX7_isRing 155 = .ok (.ifCond .eq 13, 3) := by decide +kernel
theorem dX7_isRing_158 : decode cX7_isRing 158 = .ok (.iload 5, 2) := by decide +kernel
theorem dX7_isRing_160 : decode cX7_isRing 160 = .ok (.iload_n 2, 1) := by decide +kernel
theorem dX7_isRing_161 : decode cX7_isRing 161 = .ok (.if_icmp .ne 7, 3) := by decide +kernel
theorem dX7_isRing_164 : decode cX7_isRing 164 = .ok (.iconst 1, 1) := by decide +kernel
theorem dX7_isRing_165 : decode cX7_isRing 165 = .ok (.goto 4, 3) := by decide +kernel
theorem dX7_isRing_168 : decode cX7_isRing 168 = .ok (.iconst 0, 1) := by decide +kernel
theorem dX7_isRing_169 : decode cX7_isRing 169 = .ok (.istore 6, 2) := by decide +kernel
theorem dX7_isRing_171 : decode cX7_isRing 171 = .ok (.iconst 0, 1) := by decide +kernel
theorem dX7_isRing_172 : decode cX7_isRing 172 = .ok (.istore 7, 2) := by decide +kernel
theorem dX7_isRing_174 : decode cX7_isRing 174 = .ok (.iload 7, 2) := by decide +kernel
theorem dX7_isRing_176 : decode cX7_isRing 176 = .ok (.iload_n 2, 1) := by decide +kernel
theorem dX7_isRing_177 : decode cX7_isRing 177 = .ok (.if_icmp .ge 46, 3) := by decide +kernel
theorem dX7_isRing_180 : decode cX7_isRing 180 = .ok (.iload 6, 2) := by decide +kernel
theorem dX7_isRing_182 : decode cX7_isRing 182 = .ok (.ifCond .eq 41, 3) := by decide +kernel
theorem dX7_isRing_185 : decode cX7_isRing 185 = .ok (.aload_n 0, 1) := by decide +kernel
theorem dX7_isRing_186 : decode cX7_isRing 186 = .ok (.aload_n 0, 1) := by decide +kernel
theorem dX7_isRing_187 : decode cX7_isRing 187 = .ok (.getfield 19, 3) := by decide +kernel
theorem dX7_isRing_190 : decode cX7_isRing 190 = .ok (.iload 7, 2) := by decide +kernel
theorem dX7_isRing_192 : decode cX7_isRing 192 = .ok (.iaload, 1) := by decide +kernel
theorem dX7_isRing_193 : decode cX7_isRing 193 = .ok (.aload_n 0, 1) := by decide +kernel
theorem dX7_isRing_194 : decode cX7_isRing 194 = .ok (.getfield 19, 3) := by decide +kernel
theorem dX7_isRing_197 : decode cX7_isRing 197 = .ok (.iload 7, 2) := by decide +kernel
theorem dX7_isRing_199 : decode cX7_isRing 199 = .ok (.iconst 1, 1) := by decide +kernel
theorem dX7_isRing_200 : decode cX7_isRing 200 = .ok (.iadd, 1) := by decide +kernel
theorem dX7_isRing_201 : decode cX7_isRing 201 = .ok (.iload_n 2, 1) := by decide +kernel
theorem dX7_isRing_202 : decode cX7_isRing 202 = .ok (.irem, 1) := by decide +kernel
theorem dX7_isRing_203 : decode cX7_isRing 203 = .ok (.iaload, 1) := by decide +kernel
theorem dX7_isRing_204 : decode cX7_isRing 204 = .ok (.invokevirtual 102, 3) := by decide +kernel
theorem dX7_isRing_207 : decode cX7_isRing 207 = .ok (.ifCond .le 7, 3) := by decide +kernel
theorem dX7_isRing_210 : decode cX7_isRing 210 = .ok (.iconst 1, 1) := by decide +kernel
theorem dX7_isRing_211 : decode cX7_isRing 211 = .ok (.goto 4, 3) := by decide +kernel
theorem dX7_isRing_214 : decode cX7_isRing 214 = .ok (.iconst 0, 1) := by decide +kernel
theorem dX7_isRing_215 : decode cX7_isRing 215 = .ok (.istore 6, 2) := by decide +kernel
theorem dX7_isRing_217 : decode cX7_isRing 217 = .ok (.iinc 7 1, 3) := by decide +kernel
theorem dX7_isRing_220 : decode cX7_isRing 220 = .ok (.goto (-46), 3) := by decide +kernel
theorem dX7_isRing_223 : decode cX7_isRing 223 = .ok (.iload 6, 2) := by decide +kernel
theorem dX7_isRing_225 : decode cX7_isRing 225 = .ok (.ireturn, 1) := by decide +kernel
set_option maxRecDepth 20000 in
theorem ggX7_layRing_X7_isRing : GoodIn wsX7_layRing wsX7_isRing := goodIn_r _ [6, 7, 1, 8, 9, 10, 5, 11, 12, 13, 14, 15, 16, 17, 18, 19, 20, 21, 22, 23, 24, 25, 26, 27, 28, 29, 30, 31, 32, 33, 34, 35] (by decide +kernel) (by decide +kernel)
set_option maxRecDepth 20000 in
theorem gX7_layRing_X7_isRing : GoodIn wsX7_layRing (wsV RX7 105 RX7 yX7_isRing wsX7_isRing) := goodIn_app (goodIn_of _ (by decide +kernel)) ggX7_layRing_X7_isRing
theorem dX7_layRing_0 : decode cX7_layRing 0 = .ok (.iconst 2, 1) := by decide +kernel
theorem dX7_layRing_1 : decode cX7_layRing 1 = .ok (.istore_n 1, 1) := by decide +kernel
theorem dX7_layRing_2 : decode cX7_layRing 2 = .ok (.iload_n 1, 1) := by decide +kernel
theorem dX7_layRing_3 : decode cX7_layRing 3 = .ok (.aload_n 0, 1) := by decide +kernel
theorem dX7_layRing_4 : decode cX7_layRing 4 = .ok (.getfield 7, 3) := by decide +kernel
theorem dX7_layRing_7 : decode cX7_layRing 7 = .ok (.iconst 0, 1) := by decide +kernel
theorem dX7_layRing_8 : decode cX7_layRing 8 = .ok (.iaload, 1) := by decide +kernel
theorem dX7_layRing_9 : decode cX7_layRing 9 = .ok (.if_icmp .gt 57, 3) := by decide +kernel
theorem dX7_layRing_12 : decode cX7_layRing 12 = .ok (.iload_n 1, 1) := by decide +kernel
theorem dX7_layRing_13 : decode cX7_layRing 13 = .ok (.iconst 2, 1) := by decide +kernel
theorem dX7_layRing_14 : decode cX7_layRing 14 = .ok (.if_icmp .ne 8, 3) := by decide +kernel
theorem dX7_layRing_17 : decode cX7_layRing 17 = .ok (.bipush 16, 2) := by decide +kernel
theorem dX7_layRing_19 : decode cX7_layRing 19 = .ok (.goto 16, 3) := by decide +kernel
theorem dX7_layRing_22 : decode cX7_layRing 22 = .ok (.iload_n 1, 1) := by decide +kernel
theorem dX7_layRing_23 : decode cX7_layRing 23 = .ok (.iconst 3, 1) := by decide +kernel
theorem dX7_layRing_24 : decode cX7_layRing 24 = .ok (.if_icmp .ne 8, 3) := by decide +kernel
theorem dX7_layRing_27 : decode cX7_layRing 27 = .ok (.bipush 64, 2) := by decide +kernel
theorem dX7_layRing_29 : decode cX7_layRing 29 = .ok (.goto 6, 3) := by decide +kernel
theorem dX7_layRing_32 : decode cX7_layRing 32 = .ok (.sipush 256, 3) := by decide +kernel
theorem dX7_layRing_35 : decode cX7_layRing 35 = .ok (.istore_n 2, 1) := by decide +kernel
theorem dX7_layRing_36 : decode cX7_layRing 36 = .ok (.iconst 0, 1) := by decide +kernel
theorem dX7_layRing_37 : decode cX7_layRing 37 = .ok (.istore_n 3, 1) := by decide +kernel
theorem dX7_layRing_38 : decode cX7_layRing 38 = .ok (.iload_n 3, 1) := by decide +kernel
theorem dX7_layRing_39 : decode cX7_layRing 39 = .ok (.iload_n 2, 1) := by decide +kernel
theorem dX7_layRing_40 : decode cX7_layRing 40 = .ok (.if_icmp .ge 20, 3) := by decide +kernel
theorem dX7_layRing_43 : decode cX7_layRing 43 = .ok (.aload_n 0, 1) := by decide +kernel
theorem dX7_layRing_44 : decode cX7_layRing 44 = .ok (.iload_n 3, 1) := by decide +kernel
theorem dX7_layRing_45 : decode cX7_layRing 45 = .ok (.iload_n 1, 1) := by decide +kernel
theorem dX7_layRing_46 : decode cX7_layRing 46 = .ok (.invokevirtual 105, 3) := by decide +kernel
theorem dX7_layRing_49 : decode cX7_layRing 49 = .ok (.ifCond .eq 5, 3) := by decide +kernel
theorem dX7_layRing_52 : decode cX7_layRing 52 = .ok (.iload_n 1, 1) := by decide +kernel
theorem dX7_layRing_53 : decode cX7_layRing 53 = .ok (.ireturn, 1) := by decide +kernel
theorem dX7_layRing_54 : decode cX7_layRing 54 = .ok (.iinc 3 1, 3) := by decide +kernel
theorem dX7_layRing_57 : decode cX7_layRing 57 = .ok (.goto (-19), 3) := by decide +kernel
theorem dX7_layRing_60 : decode cX7_layRing 60 = .ok (.iinc 1 1, 3) := by decide +kernel
theorem dX7_layRing_63 : decode cX7_layRing 63 = .ok (.goto (-61), 3) := by decide +kernel
theorem dX7_layRing_66 : decode cX7_layRing 66 = .ok (.iconst 0, 1) := by decide +kernel
theorem dX7_layRing_67 : decode cX7_layRing 67 = .ok (.ireturn, 1) := by decide +kernel
set_option maxRecDepth 20000 in
theorem ggX7_exchange_X7_layRing : GoodIn wsX7_exchange wsX7_layRing := goodIn_r _ [7, 1, 8, 9, 10, 6, 11, 2, 12, 13, 14, 15, 16, 17, 18, 19, 20, 21, 22, 23, 33, 34, 35, 36, 37, 38, 39, 40, 41, 42, 43, 44, 45, 46, 47, 48] (by decide +kernel) (by decide +kernel)
set_option maxRecDepth 20000 in
theorem gX7_exchange_X7_layRing : GoodIn wsX7_exchange (wsV RX7 108 RX7 yX7_layRing wsX7_layRing) := goodIn_app (goodIn_of _ (by decide +kernel)) ggX7_exchange_X7_layRing
set_option maxRecDepth 20000 in
theorem ggX7_exchange_X7_records : GoodIn wsX7_exchange wsX7_records := goodIn_r _ [27, 28, 29, 30, 31, 6, 32, 1, 33, 34, 35, 36, 37, 38, 39, 40, 41, 42, 43, 44, 45, 46, 47, 48] (by decide +kernel) (by decide +kernel)
set_option maxRecDepth 20000 in
theorem gX7_exchange_X7_records : GoodIn wsX7_exchange (wsV RX7 58 RX7 yX7_records wsX7_records) := goodIn_app (goodIn_of _ (by decide +kernel)) ggX7_exchange_X7_records
theorem dX7_exchange_0 : decode cX7_exchange 0 = .ok (.aload_n 0, 1) := by decide +kernel
theorem dX7_exchange_1 : decode cX7_exchange 1 = .ok (.invokevirtual 108, 3) := by decide +kernel
theorem dX7_exchange_4 : decode cX7_exchange 4 = .ok (.istore_n 1, 1) := by decide +kernel
theorem dX7_exchange_5 : decode cX7_exchange 5 = .ok (.iload_n 1, 1) := by decide +kernel
theorem dX7_exchange_6 : decode cX7_exchange 6 = .ok (.ifCond .ne 6, 3) := by decide +kernel
theorem dX7_exchange_9 : decode cX7_exchange 9 = .ok (.bipush (-2), 2) := by decide +kernel
theorem dX7_exchange_11 : decode cX7_exchange 11 = .ok (.ireturn, 1) := by decide +kernel
theorem dX7_exchange_12 : decode cX7_exchange 12 = .ok (.aload_n 0, 1) := by decide +kernel
theorem dX7_exchange_13 : decode cX7_exchange 13 = .ok (.invokevirtual 58, 3) := by decide +kernel
theorem dX7_exchange_16 : decode cX7_exchange 16 = .ok (.iconst 0, 1) := by decide +kernel
theorem dX7_exchange_17 : decode cX7_exchange 17 = .ok (.istore_n 2, 1) := by decide +kernel
theorem dX7_exchange_18 : decode cX7_exchange 18 = .ok (.iload_n 2, 1) := by decide +kernel
theorem dX7_exchange_19 : decode cX7_exchange 19 = .ok (.bipush 24, 2) := by decide +kernel
theorem dX7_exchange_21 : decode cX7_exchange 21 = .ok (.if_icmp .ge 74, 3) := by decide +kernel
theorem dX7_exchange_24 : decode cX7_exchange 24 = .ok (.aload_n 0, 1) := by decide +kernel
theorem dX7_exchange_25 : decode cX7_exchange 25 = .ok (.getfield 7, 3) := by decide +kernel
theorem dX7_exchange_28 : decode cX7_exchange 28 = .ok (.iconst 1, 1) := by decide +kernel
theorem dX7_exchange_29 : decode cX7_exchange 29 = .ok (.iload_n 2, 1) := by decide +kernel
theorem dX7_exchange_30 : decode cX7_exchange 30 = .ok (.iadd, 1) := by decide +kernel
theorem dX7_exchange_31 : decode cX7_exchange 31 = .ok (.iaload, 1) := by decide +kernel
theorem dX7_exchange_32 : decode cX7_exchange 32 = .ok (.istore_n 3, 1) := by decide +kernel
theorem dX7_exchange_33 : decode cX7_exchange 33 = .ok (.iconst 0, 1) := by decide +kernel
theorem dX7_exchange_34 : decode cX7_exchange 34 = .ok (.istore 4, 2) := by decide +kernel
theorem dX7_exchange_36 : decode cX7_exchange 36 = .ok (.iload 4, 2) := by decide +kernel
theorem dX7_exchange_38 : decode cX7_exchange 38 = .ok (.iload_n 1, 1) := by decide +kernel
theorem dX7_exchange_39 : decode cX7_exchange 39 = .ok (.if_icmp .ge 50, 3) := by decide +kernel
theorem dX7_exchange_42 : decode cX7_exchange 42 = .ok (.aload_n 0, 1) := by decide +kernel
theorem dX7_exchange_43 : decode cX7_exchange 43 = .ok (.getfield 7, 3) := by decide +kernel
theorem dX7_exchange_46 : decode cX7_exchange 46 = .ok (.iconst 1, 1) := by decide +kernel
theorem dX7_exchange_47 : decode cX7_exchange 47 = .ok (.iload_n 2, 1) := by decide +kernel
theorem dX7_exchange_48 : decode cX7_exchange 48 = .ok (.iadd, 1) := by decide +kernel
theorem dX7_exchange_49 : decode cX7_exchange 49 = .ok (.iload_n 3, 1) := by decide +kernel
theorem dX7_exchange_50 : decode cX7_exchange 50 = .ok (.aload_n 0, 1) := by decide +kernel
theorem dX7_exchange_51 : decode cX7_exchange 51 = .ok (.getfield 19, 3) := by decide +kernel
theorem dX7_exchange_54 : decode cX7_exchange 54 = .ok (.iload 4, 2) := by decide +kernel
theorem dX7_exchange_56 : decode cX7_exchange 56 = .ok (.iconst 1, 1) := by decide +kernel
theorem dX7_exchange_57 : decode cX7_exchange 57 = .ok (.iadd, 1) := by decide +kernel
theorem dX7_exchange_58 : decode cX7_exchange 58 = .ok (.iload_n 1, 1) := by decide +kernel
theorem dX7_exchange_59 : decode cX7_exchange 59 = .ok (.irem, 1) := by decide +kernel
theorem dX7_exchange_60 : decode cX7_exchange 60 = .ok (.iaload, 1) := by decide +kernel
theorem dX7_exchange_61 : decode cX7_exchange 61 = .ok (.if_icmp .ne 13, 3) := by decide +kernel
theorem dX7_exchange_64 : decode cX7_exchange 64 = .ok (.aload_n 0, 1) := by decide +kernel
theorem dX7_exchange_65 : decode cX7_exchange 65 = .ok (.getfield 19, 3) := by decide +kernel
theorem dX7_exchange_68 : decode cX7_exchange 68 = .ok (.iload 4, 2) := by decide +kernel
theorem dX7_exchange_70 : decode cX7_exchange 70 = .ok (.iaload, 1) := by decide +kernel
theorem dX7_exchange_71 : decode cX7_exchange 71 = .ok (.goto 11, 3) := by decide +kernel
theorem dX7_exchange_74 : decode cX7_exchange 74 = .ok (.aload_n 0, 1) := by decide +kernel
theorem dX7_exchange_75 : decode cX7_exchange 75 = .ok (.getfield 7, 3) := by decide +kernel
theorem dX7_exchange_78 : decode cX7_exchange 78 = .ok (.iconst 1, 1) := by decide +kernel
theorem dX7_exchange_79 : decode cX7_exchange 79 = .ok (.iload_n 2, 1) := by decide +kernel
theorem dX7_exchange_80 : decode cX7_exchange 80 = .ok (.iadd, 1) := by decide +kernel
theorem dX7_exchange_81 : decode cX7_exchange 81 = .ok (.iaload, 1) := by decide +kernel
theorem dX7_exchange_82 : decode cX7_exchange 82 = .ok (.iastore, 1) := by decide +kernel
theorem dX7_exchange_83 : decode cX7_exchange 83 = .ok (.iinc 4 1, 3) := by decide +kernel
theorem dX7_exchange_86 : decode cX7_exchange 86 = .ok (.goto (-50), 3) := by decide +kernel
theorem dX7_exchange_89 : decode cX7_exchange 89 = .ok (.iinc 2 1, 3) := by decide +kernel
theorem dX7_exchange_92 : decode cX7_exchange 92 = .ok (.goto (-74), 3) := by decide +kernel
theorem dX7_exchange_95 : decode cX7_exchange 95 = .ok (.iload_n 1, 1) := by decide +kernel
theorem dX7_exchange_96 : decode cX7_exchange 96 = .ok (.ireturn, 1) := by decide +kernel
set_option maxRecDepth 20000 in
theorem ggX7_undo_X7_copies : GoodIn wsX7_undo wsX7_copies := goodIn_r _ [6, 7, 8, 9, 10, 11, 12, 13, 14, 15, 16, 17, 18, 19, 20, 21, 22, 23] (by decide +kernel) (by decide +kernel)
set_option maxRecDepth 20000 in
theorem gX7_undo_X7_copies : GoodIn wsX7_undo (wsV RX7 35 RX7 yX7_copies wsX7_copies) := goodIn_app (goodIn_of _ (by decide +kernel)) ggX7_undo_X7_copies
theorem dX7_undo_0 : decode cX7_undo 0 = .ok (.aload_n 0, 1) := by decide +kernel
theorem dX7_undo_1 : decode cX7_undo 1 = .ok (.getfield 31, 3) := by decide +kernel
theorem dX7_undo_4 : decode cX7_undo 4 = .ok (.ifCond .ne 6, 3) := by decide +kernel
theorem dX7_undo_7 : decode cX7_undo 7 = .ok (.bipush (-2), 2) := by decide +kernel
theorem dX7_undo_9 : decode cX7_undo 9 = .ok (.ireturn, 1) := by decide +kernel
theorem dX7_undo_10 : decode cX7_undo 10 = .ok (.aload_n 0, 1) := by decide +kernel
theorem dX7_undo_11 : decode cX7_undo 11 = .ok (.bipush 121, 2) := by decide +kernel
theorem dX7_undo_13 : decode cX7_undo 13 = .ok (.aload_n 0, 1) := by decide +kernel
theorem dX7_undo_14 : decode cX7_undo 14 = .ok (.getfield 31, 3) := by decide +kernel
theorem dX7_undo_17 : decode cX7_undo 17 = .ok (.imul, 1) := by decide +kernel
theorem dX7_undo_18 : decode cX7_undo 18 = .ok (.iconst 0, 1) := by decide +kernel
theorem dX7_undo_19 : decode cX7_undo 19 = .ok (.invokevirtual 35, 3) := by decide +kernel
theorem dX7_undo_22 : decode cX7_undo 22 = .ok (.aload_n 0, 1) := by decide +kernel
theorem dX7_undo_23 : decode cX7_undo 23 = .ok (.dup, 1) := by decide +kernel
theorem dX7_undo_24 : decode cX7_undo 24 = .ok (.getfield 31, 3) := by decide +kernel
theorem dX7_undo_27 : decode cX7_undo 27 = .ok (.iconst 1, 1) := by decide +kernel
theorem dX7_undo_28 : decode cX7_undo 28 = .ok (.isub, 1) := by decide +kernel
theorem dX7_undo_29 : decode cX7_undo 29 = .ok (.putfield 31, 3) := by decide +kernel
theorem dX7_undo_32 : decode cX7_undo 32 = .ok (.aload_n 0, 1) := by decide +kernel
theorem dX7_undo_33 : decode cX7_undo 33 = .ok (.getfield 31, 3) := by decide +kernel
theorem dX7_undo_36 : decode cX7_undo 36 = .ok (.ireturn, 1) := by decide +kernel
theorem dX7_onTable_0 : decode cX7_onTable 0 = .ok (.iconst 0, 1) := by decide +kernel
theorem dX7_onTable_1 : decode cX7_onTable 1 = .ok (.istore_n 1, 1) := by decide +kernel
theorem dX7_onTable_2 : decode cX7_onTable 2 = .ok (.iconst 0, 1) := by decide +kernel
theorem dX7_onTable_3 : decode cX7_onTable 3 = .ok (.istore_n 2, 1) := by decide +kernel
theorem dX7_onTable_4 : decode cX7_onTable 4 = .ok (.iload_n 2, 1) := by decide +kernel
theorem dX7_onTable_5 : decode cX7_onTable 5 = .ok (.bipush 24, 2) := by decide +kernel
theorem dX7_onTable_7 : decode cX7_onTable 7 = .ok (.if_icmp .ge 30, 3) := by decide +kernel
theorem dX7_onTable_10 : decode cX7_onTable 10 = .ok (.iload_n 1, 1) := by decide +kernel
theorem dX7_onTable_11 : decode cX7_onTable 11 = .ok (.aload_n 0, 1) := by decide +kernel
theorem dX7_onTable_12 : decode cX7_onTable 12 = .ok (.getfield 7, 3) := by decide +kernel
theorem dX7_onTable_15 : decode cX7_onTable 15 = .ok (.iconst 1, 1) := by decide +kernel
theorem dX7_onTable_16 : decode cX7_onTable 16 = .ok (.iload_n 2, 1) := by decide +kernel
theorem dX7_onTable_17 : decode cX7_onTable 17 = .ok (.iadd, 1) := by decide +kernel
theorem dX7_onTable_18 : decode cX7_onTable 18 = .ok (.iaload, 1) := by decide +kernel
theorem dX7_onTable_19 : decode cX7_onTable 19 = .ok (.bipush (-9), 2) := by decide +kernel
theorem dX7_onTable_21 : decode cX7_onTable 21 = .ok (.if_icmp .ne 7, 3) := by decide +kernel
theorem dX7_onTable_24 : decode cX7_onTable 24 = .ok (.iconst 1, 1) := by decide +kernel
theorem dX7_onTable_25 : decode cX7_onTable 25 = .ok (.goto 4, 3) := by decide +kernel
theorem dX7_onTable_28 : decode cX7_onTable 28 = .ok (.iconst 0, 1) := by decide +kernel
theorem dX7_onTable_29 : decode cX7_onTable 29 = .ok (.iadd, 1) := by decide +kernel
theorem dX7_onTable_30 : decode cX7_onTable 30 = .ok (.istore_n 1, 1) := by decide +kernel
theorem dX7_onTable_31 : decode cX7_onTable 31 = .ok (.iinc 2 1, 3) := by decide +kernel
theorem dX7_onTable_34 : decode cX7_onTable 34 = .ok (.goto (-30), 3) := by decide +kernel
theorem dX7_onTable_37 : decode cX7_onTable 37 = .ok (.iload_n 1, 1) := by decide +kernel
theorem dX7_onTable_38 : decode cX7_onTable 38 = .ok (.ireturn, 1) := by decide +kernel
set_option maxRecDepth 20000 in
theorem ggX7_envies_X7_envyOf : GoodIn wsX7_envies wsX7_envyOf := goodIn_r _ [6, 7, 8, 9, 5, 10, 1, 11, 12, 13, 14, 15, 16, 17, 18, 19, 20, 21, 22, 23, 24, 25, 26, 27, 28, 29, 30] (by decide +kernel) (by decide +kernel)
set_option maxRecDepth 20000 in
theorem gX7_envies_X7_envyOf : GoodIn wsX7_envies (wsV RX7 102 RX7 yX7_envyOf wsX7_envyOf) := goodIn_app (goodIn_of _ (by decide +kernel)) ggX7_envies_X7_envyOf
theorem dX7_envies_0 : decode cX7_envies 0 = .ok (.iconst 0, 1) := by decide +kernel
theorem dX7_envies_1 : decode cX7_envies 1 = .ok (.istore_n 2, 1) := by decide +kernel
theorem dX7_envies_2 : decode cX7_envies 2 = .ok (.iconst 0, 1) := by decide +kernel
theorem dX7_envies_3 : decode cX7_envies 3 = .ok (.istore_n 3, 1) := by decide +kernel
theorem dX7_envies_4 : decode cX7_envies 4 = .ok (.iload_n 3, 1) := by decide +kernel
theorem dX7_envies_5 : decode cX7_envies 5 = .ok (.aload_n 0, 1) := by decide +kernel
theorem dX7_envies_6 : decode cX7_envies 6 = .ok (.getfield 7, 3) := by decide +kernel
theorem dX7_envies_9 : decode cX7_envies 9 = .ok (.iconst 0, 1) := by decide +kernel
theorem dX7_envies_10 : decode cX7_envies 10 = .ok (.iaload, 1) := by decide +kernel
theorem dX7_envies_11 : decode cX7_envies 11 = .ok (.if_icmp .ge 70, 3) := by decide +kernel

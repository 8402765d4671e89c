theorem dX0_init_0 : decode cX0_init 0 = .ok (.aload_n 0, 1) := by decide +kernel
theorem dX0_init_1 : decode cX0_init 1 = .ok (.invokespecial 3, 3) := by decide +kernel
theorem dX0_init_4 : decode cX0_init 4 = .ok (.aload_n 0, 1) := by decide +kernel
theorem dX0_init_5 : decode cX0_init 5 = .ok (.iconst 0, 1) := by decide +kernel
theorem dX0_init_6 : decode cX0_init 6 = .ok (.putfield 9, 3) := by decide +kernel
theorem dX0_init_9 : decode cX0_init 9 = .ok (.aload_n 0, 1) := by decide +kernel
theorem dX0_init_10 : decode cX0_init 10 = .ok (.bipush 24, 2) := by decide +kernel
theorem dX0_init_12 : decode cX0_init 12 = .ok (.newarray .int, 2) := by decide +kernel
theorem dX0_init_14 : decode cX0_init 14 = .ok (.putfield 15, 3) := by decide +kernel
theorem dX0_init_17 : decode cX0_init 17 = .ok (.aload_n 0, 1) := by decide +kernel
theorem dX0_init_18 : decode cX0_init 18 = .ok (.iconst 4, 1) := by decide +kernel
theorem dX0_init_19 : decode cX0_init 19 = .ok (.bipush 24, 2) := by decide +kernel
theorem dX0_init_21 : decode cX0_init 21 = .ok (.multianewarray 19 2, 4) := by decide +kernel
theorem dX0_init_25 : decode cX0_init 25 = .ok (.putfield 21, 3) := by decide +kernel
theorem dX0_init_28 : decode cX0_init 28 = .ok (.iconst 0, 1) := by decide +kernel
theorem dX0_init_29 : decode cX0_init 29 = .ok (.istore_n 1, 1) := by decide +kernel
theorem dX0_init_30 : decode cX0_init 30 = .ok (.iload_n 1, 1) := by decide +kernel
theorem dX0_init_31 : decode cX0_init 31 = .ok (.bipush 24, 2) := by decide +kernel
theorem dX0_init_33 : decode cX0_init 33 = .ok (.if_icmp .ge 16, 3) := by decide +kernel
theorem dX0_init_36 : decode cX0_init 36 = .ok (.aload_n 0, 1) := by decide +kernel
theorem dX0_init_37 : decode cX0_init 37 = .ok (.getfield 15, 3) := by decide +kernel
theorem dX0_init_40 : decode cX0_init 40 = .ok (.iload_n 1, 1) := by decide +kernel
theorem dX0_init_41 : decode cX0_init 41 = .ok (.iconst (-1), 1) := by decide +kernel
theorem dX0_init_42 : decode cX0_init 42 = .ok (.iastore, 1) := by decide +kernel
theorem dX0_init_43 : decode cX0_init 43 = .ok (.iinc 1 1, 3) := by decide +kernel
theorem dX0_init_46 : decode cX0_init 46 = .ok (.goto (-16), 3) := by decide +kernel
theorem dX0_init_49 : decode cX0_init 49 = .ok (.return_, 1) := by decide +kernel
set_option maxRecDepth 20000 in
theorem ggX0_become_X0_takeOwners : GoodIn wsX0_become wsX0_takeOwners := goodIn_r _ [8, 2, 9, 10, 11, 12, 17, 18, 19] (by decide +kernel) (by decide +kernel)
set_option maxRecDepth 20000 in
theorem gX0_become_X0_takeOwners : GoodIn wsX0_become (wsV RX0 24 RX0 yX0_takeOwners wsX0_takeOwners) := goodIn_app (goodIn_of _ (by decide +kernel)) ggX0_become_X0_takeOwners
set_option maxRecDepth 20000 in
theorem ggX0_become_X0_takeValues : GoodIn wsX0_become wsX0_takeValues := goodIn_r _ [16, 3, 9, 10, 11, 12, 17, 18, 19] (by decide +kernel) (by decide +kernel)
set_option maxRecDepth 20000 in
theorem gX0_become_X0_takeValues : GoodIn wsX0_become (wsV RX0 28 RX0 yX0_takeValues wsX0_takeValues) := goodIn_app (goodIn_of _ (by decide +kernel)) ggX0_become_X0_takeValues
theorem dX0_become_0 : decode cX0_become 0 = .ok (.aload_n 0, 1) := by decide +kernel
theorem dX0_become_1 : decode cX0_become 1 = .ok (.aload_n 1, 1) := by decide +kernel
theorem dX0_become_2 : decode cX0_become 2 = .ok (.getfield 9, 3) := by decide +kernel
theorem dX0_become_5 : decode cX0_become 5 = .ok (.putfield 9, 3) := by decide +kernel
theorem dX0_become_8 : decode cX0_become 8 = .ok (.aload_n 0, 1) := by decide +kernel
theorem dX0_become_9 : decode cX0_become 9 = .ok (.aload_n 1, 1) := by decide +kernel
theorem dX0_become_10 : decode cX0_become 10 = .ok (.getfield 15, 3) := by decide +kernel
theorem dX0_become_13 : decode cX0_become 13 = .ok (.invokevirtual 24, 3) := by decide +kernel
theorem dX0_become_16 : decode cX0_become 16 = .ok (.iconst 0, 1) := by decide +kernel
theorem dX0_become_17 : decode cX0_become 17 = .ok (.istore_n 2, 1) := by decide +kernel
theorem dX0_become_18 : decode cX0_become 18 = .ok (.iload_n 2, 1) := by decide +kernel
theorem dX0_become_19 : decode cX0_become 19 = .ok (.iconst 4, 1) := by decide +kernel
theorem dX0_become_20 : decode cX0_become 20 = .ok (.if_icmp .ge 20, 3) := by decide +kernel
theorem dX0_become_23 : decode cX0_become 23 = .ok (.aload_n 0, 1) := by decide +kernel
theorem dX0_become_24 : decode cX0_become 24 = .ok (.iload_n 2, 1) := by decide +kernel
theorem dX0_become_25 : decode cX0_become 25 = .ok (.aload_n 1, 1) := by decide +kernel
theorem dX0_become_26 : decode cX0_become 26 = .ok (.getfield 21, 3) := by decide +kernel
theorem dX0_become_29 : decode cX0_become 29 = .ok (.iload_n 2, 1) := by decide +kernel
theorem dX0_become_30 : decode cX0_become 30 = .ok (.aaload, 1) := by decide +kernel
theorem dX0_become_31 : decode cX0_become 31 = .ok (.invokevirtual 28, 3) := by decide +kernel
theorem dX0_become_34 : decode cX0_become 34 = .ok (.iinc 2 1, 3) := by decide +kernel
theorem dX0_become_37 : decode cX0_become 37 = .ok (.goto (-19), 3) := by decide +kernel
theorem dX0_become_40 : decode cX0_become 40 = .ok (.return_, 1) := by decide +kernel
theorem dX0_takeOwners_0 : decode cX0_takeOwners 0 = .ok (.aload_n 1, 1) := by decide +kernel
theorem dX0_takeOwners_1 : decode cX0_takeOwners 1 = .ok (.iconst 0, 1) := by decide +kernel
theorem dX0_takeOwners_2 : decode cX0_takeOwners 2 = .ok (.aload_n 0, 1) := by decide +kernel
theorem dX0_takeOwners_3 : decode cX0_takeOwners 3 = .ok (.getfield 15, 3) := by decide +kernel
theorem dX0_takeOwners_6 : decode cX0_takeOwners 6 = .ok (.iconst 0, 1) := by decide +kernel
theorem dX0_takeOwners_7 : decode cX0_takeOwners 7 = .ok (.bipush 24, 2) := by decide +kernel
theorem dX0_takeOwners_9 : decode cX0_takeOwners 9 = .ok (.invokestatic 32, 3) := by decide +kernel
theorem dX0_takeOwners_12 : decode cX0_takeOwners 12 = .ok (.return_, 1) := by decide +kernel
theorem dX0_takeValues_0 : decode cX0_takeValues 0 = .ok (.aload_n 2, 1) := by decide +kernel
theorem dX0_takeValues_1 : decode cX0_takeValues 1 = .ok (.iconst 0, 1) := by decide +kernel
theorem dX0_takeValues_2 : decode cX0_takeValues 2 = .ok (.aload_n 0, 1) := by decide +kernel
theorem dX0_takeValues_3 : decode cX0_takeValues 3 = .ok (.getfield 21, 3) := by decide +kernel
theorem dX0_takeValues_6 : decode cX0_takeValues 6 = .ok (.iload_n 1, 1) := by decide +kernel
theorem dX0_takeValues_7 : decode cX0_takeValues 7 = .ok (.aaload, 1) := by decide +kernel
theorem dX0_takeValues_8 : decode cX0_takeValues 8 = .ok (.iconst 0, 1) := by decide +kernel
theorem dX0_takeValues_9 : decode cX0_takeValues 9 = .ok (.bipush 24, 2) := by decide +kernel
theorem dX0_takeValues_11 : decode cX0_takeValues 11 = .ok (.invokestatic 32, 3) := by decide +kernel
theorem dX0_takeValues_14 : decode cX0_takeValues 14 = .ok (.return_, 1) := by decide +kernel
theorem dX0_isGuest_0 : decode cX0_isGuest 0 = .ok (.iload_n 1, 1) := by decide +kernel
theorem dX0_isGuest_1 : decode cX0_isGuest 1 = .ok (.ifCond .lt 15, 3) := by decide +kernel
theorem dX0_isGuest_4 : decode cX0_isGuest 4 = .ok (.iload_n 1, 1) := by decide +kernel
theorem dX0_isGuest_5 : decode cX0_isGuest 5 = .ok (.aload_n 0, 1) := by decide +kernel
theorem dX0_isGuest_6 : decode cX0_isGuest 6 = .ok (.getfield 9, 3) := by decide +kernel
theorem dX0_isGuest_9 : decode cX0_isGuest 9 = .ok (.if_icmp .ge 7, 3) := by decide +kernel
theorem dX0_isGuest_12 : decode cX0_isGuest 12 = .ok (.iconst 1, 1) := by decide +kernel
theorem dX0_isGuest_13 : decode cX0_isGuest 13 = .ok (.goto 4, 3) := by decide +kernel
theorem dX0_isGuest_16 : decode cX0_isGuest 16 = .ok (.iconst 0, 1) := by decide +kernel
theorem dX0_isGuest_17 : decode cX0_isGuest 17 = .ok (.ireturn, 1) := by decide +kernel
set_option maxRecDepth 20000 in
theorem ggX0_seatGuest_X0_setValues : GoodIn wsX0_seatGuest wsX0_setValues := goodIn_r _ [6, 7, 8, 9, 10] (by decide +kernel) (by decide +kernel)
set_option maxRecDepth 20000 in
theorem gX0_seatGuest_X0_setValues : GoodIn wsX0_seatGuest (wsV RX0 38 RX0 yX0_setValues wsX0_setValues) := goodIn_app (goodIn_of _ (by decide +kernel)) ggX0_seatGuest_X0_setValues
theorem dX0_seatGuest_0 : decode cX0_seatGuest 0 = .ok (.aload_n 0, 1) := by decide +kernel
theorem dX0_seatGuest_1 : decode cX0_seatGuest 1 = .ok (.getfield 9, 3) := by decide +kernel
theorem dX0_seatGuest_4 : decode cX0_seatGuest 4 = .ok (.istore_n 1, 1) := by decide +kernel
theorem dX0_seatGuest_5 : decode cX0_seatGuest 5 = .ok (.aload_n 0, 1) := by decide +kernel
theorem dX0_seatGuest_6 : decode cX0_seatGuest 6 = .ok (.dup, 1) := by decide +kernel
theorem dX0_seatGuest_7 : decode cX0_seatGuest 7 = .ok (.getfield 9, 3) := by decide +kernel
theorem dX0_seatGuest_10 : decode cX0_seatGuest 10 = .ok (.iconst 1, 1) := by decide +kernel
theorem dX0_seatGuest_11 : decode cX0_seatGuest 11 = .ok (.iadd, 1) := by decide +kernel
theorem dX0_seatGuest_12 : decode cX0_seatGuest 12 = .ok (.putfield 9, 3) := by decide +kernel
theorem dX0_seatGuest_15 : decode cX0_seatGuest 15 = .ok (.aload_n 0, 1) := by decide +kernel
theorem dX0_seatGuest_16 : decode cX0_seatGuest 16 = .ok (.iload_n 1, 1) := by decide +kernel
theorem dX0_seatGuest_17 : decode cX0_seatGuest 17 = .ok (.iconst 0, 1) := by decide +kernel
theorem dX0_seatGuest_18 : decode cX0_seatGuest 18 = .ok (.bipush 23, 2) := by decide +kernel
theorem dX0_seatGuest_20 : decode cX0_seatGuest 20 = .ok (.iconst 1, 1) := by decide +kernel
theorem dX0_seatGuest_21 : decode cX0_seatGuest 21 = .ok (.invokevirtual 38, 3) := by decide +kernel
theorem dX0_seatGuest_24 : decode cX0_seatGuest 24 = .ok (.iload_n 1, 1) := by decide +kernel
theorem dX0_seatGuest_25 : decode cX0_seatGuest 25 = .ok (.ireturn, 1) := by decide +kernel
theorem dX0_setValues_0 : decode cX0_setValues 0 = .ok (.iload_n 2, 1) := by decide +kernel
theorem dX0_setValues_1 : decode cX0_setValues 1 = .ok (.istore 5, 2) := by decide +kernel
theorem dX0_setValues_3 : decode cX0_setValues 3 = .ok (.iload 5, 2) := by decide +kernel
theorem dX0_setValues_5 : decode cX0_setValues 5 = .ok (.iload_n 3, 1) := by decide +kernel
theorem dX0_setValues_6 : decode cX0_setValues 6 = .ok (.if_icmp .gt 20, 3) := by decide +kernel
theorem dX0_setValues_9 : decode cX0_setValues 9 = .ok (.aload_n 0, 1) := by decide +kernel
theorem dX0_setValues_10 : decode cX0_setValues 10 = .ok (.getfield 21, 3) := by decide +kernel
theorem dX0_setValues_13 : decode cX0_setValues 13 = .ok (.iload_n 1, 1) := by decide +kernel
theorem dX0_setValues_14 : decode cX0_setValues 14 = .ok (.aaload, 1) := by decide +kernel
theorem dX0_setValues_15 : decode cX0_setValues 15 = .ok (.iload 5, 2) := by decide +kernel
theorem dX0_setValues_17 : decode cX0_setValues 17 = .ok (.iload 4, 2) := by decide +kernel
theorem dX0_setValues_19 : decode cX0_setValues 19 = .ok (.iastore, 1) := by decide +kernel
theorem dX0_setValues_20 : decode cX0_setValues 20 = .ok (.iinc 5 1, 3) := by decide +kernel
theorem dX0_setValues_23 : decode cX0_setValues 23 = .ok (.goto (-20), 3) := by decide +kernel
theorem dX0_setValues_26 : decode cX0_setValues 26 = .ok (.return_, 1) := by decide +kernel
set_option maxRecDepth 20000 in
theorem ggX0_total_X0_spanWorth : GoodIn wsX0_total wsX0_spanWorth := goodIn_r _ [5, 6, 7, 8, 9] (by decide +kernel) (by decide +kernel)
set_option maxRecDepth 20000 in
theorem gX0_total_X0_spanWorth : GoodIn wsX0_total (wsV RX0 42 RX0 yX0_spanWorth wsX0_spanWorth) := goodIn_app (goodIn_of _ (by decide +kernel)) ggX0_total_X0_spanWorth
theorem dX0_total_0 : decode cX0_total 0 = .ok (.aload_n 0, 1) := by decide +kernel
theorem dX0_total_1 : decode cX0_total 1 = .ok (.iload_n 1, 1) := by decide +kernel
theorem dX0_total_2 : decode cX0_total 2 = .ok (.iconst 0, 1) := by decide +kernel
theorem dX0_total_3 : decode cX0_total 3 = .ok (.bipush 23, 2) := by decide +kernel
theorem dX0_total_5 : decode cX0_total 5 = .ok (.invokevirtual 42, 3) := by decide +kernel
theorem dX0_total_8 : decode cX0_total 8 = .ok (.ireturn, 1) := by decide +kernel
theorem dX0_spanWorth_0 : decode cX0_spanWorth 0 = .ok (.iconst 0, 1) := by decide +kernel
theorem dX0_spanWorth_1 : decode cX0_spanWorth 1 = .ok (.istore 4, 2) := by decide +kernel
theorem dX0_spanWorth_3 : decode cX0_spanWorth 3 = .ok (.iload_n 2, 1) := by decide +kernel
theorem dX0_spanWorth_4 : decode cX0_spanWorth 4 = .ok (.istore 5, 2) := by decide +kernel
theorem dX0_spanWorth_6 : decode cX0_spanWorth 6 = .ok (.iload 5, 2) := by decide +kernel
theorem dX0_spanWorth_8 : decode cX0_spanWorth 8 = .ok (.iload_n 3, 1) := by decide +kernel
theorem dX0_spanWorth_9 : decode cX0_spanWorth 9 = .ok (.if_icmp .gt 23, 3) := by decide +kernel
theorem dX0_spanWorth_12 : decode cX0_spanWorth 12 = .ok (.iload 4, 2) := by decide +kernel
theorem dX0_spanWorth_14 : decode cX0_spanWorth 14 = .ok (.aload_n 0, 1) := by decide +kernel
theorem dX0_spanWorth_15 : decode cX0_spanWorth 15 = .ok (.getfield 21, 3) := by decide +kernel
theorem dX0_spanWorth_18 : decode cX0_spanWorth 18 = .ok (.iload_n 1, 1) := by decide +kernel
theorem dX0_spanWorth_19 : decode cX0_spanWorth 19 = .ok (.aaload, 1) := by decide +kernel
theorem dX0_spanWorth_20 : decode cX0_spanWorth 20 = .ok (.iload 5, 2) := by decide +kernel
theorem dX0_spanWorth_22 : decode cX0_spanWorth 22 = .ok (.iaload, 1) := by decide +kernel
theorem dX0_spanWorth_23 : decode cX0_spanWorth 23 = .ok (.iadd, 1) := by decide +kernel
theorem dX0_spanWorth_24 : decode cX0_spanWorth 24 = .ok (.istore 4, 2) := by decide +kernel
theorem dX0_spanWorth_26 : decode cX0_spanWorth 26 = .ok (.iinc 5 1, 3) := by decide +kernel
theorem dX0_spanWorth_29 : decode cX0_spanWorth 29 = .ok (.goto (-23), 3) := by decide +kernel
theorem dX0_spanWorth_32 : decode cX0_spanWorth 32 = .ok (.iload 4, 2) := by decide +kernel
theorem dX0_spanWorth_34 : decode cX0_spanWorth 34 = .ok (.ireturn, 1) := by decide +kernel
set_option maxRecDepth 20000 in
theorem ggX0_worth_X0_worthWithin : GoodIn wsX0_worth wsX0_worthWithin := goodIn_r _ [5, 6, 7, 8, 9, 10] (by decide +kernel) (by decide +kernel)
set_option maxRecDepth 20000 in
theorem gX0_worth_X0_worthWithin : GoodIn wsX0_worth (wsV RX0 46 RX0 yX0_worthWithin wsX0_worthWithin) := goodIn_app (goodIn_of _ (by decide +kernel)) ggX0_worth_X0_worthWithin
theorem dX0_worth_0 : decode cX0_worth 0 = .ok (.aload_n 0, 1) := by decide +kernel
theorem dX0_worth_1 : decode cX0_worth 1 = .ok (.iload_n 1, 1) := by decide +kernel
theorem dX0_worth_2 : decode cX0_worth 2 = .ok (.iload_n 2, 1) := by decide +kernel
theorem dX0_worth_3 : decode cX0_worth 3 = .ok (.iconst 0, 1) := by decide +kernel
theorem dX0_worth_4 : decode cX0_worth 4 = .ok (.bipush 23, 2) := by decide +kernel
theorem dX0_worth_6 : decode cX0_worth 6 = .ok (.invokevirtual 46, 3) := by decide +kernel
theorem dX0_worth_9 : decode cX0_worth 9 = .ok (.ireturn, 1) := by decide +kernel
theorem dX0_worthWithin_0 : decode cX0_worthWithin 0 = .ok (.iconst 0, 1) := by decide +kernel
theorem dX0_worthWithin_1 : decode cX0_worthWithin 1 = .ok (.istore 5, 2) := by decide +kernel
theorem dX0_worthWithin_3 : decode cX0_worthWithin 3 = .ok (.iload_n 3, 1) := by decide +kernel
theorem dX0_worthWithin_4 : decode cX0_worthWithin 4 = .ok (.istore 6, 2) := by decide +kernel
theorem dX0_worthWithin_6 : decode cX0_worthWithin 6 = .ok (.iload 6, 2) := by decide +kernel
theorem dX0_worthWithin_8 : decode cX0_worthWithin 8 = .ok (.iload 4, 2) := by decide +kernel
theorem dX0_worthWithin_10 : decode cX0_worthWithin 10 = .ok (.if_icmp .gt 34, 3) := by decide +kernel
theorem dX0_worthWithin_13 : decode cX0_worthWithin 13 = .ok (.aload_n 0, 1) := by decide +kernel
theorem dX0_worthWithin_14 : decode cX0_worthWithin 14 = .ok (.getfield 15, 3) := by decide +kernel
theorem dX0_worthWithin_17 : decode cX0_worthWithin 17 = .ok (.iload 6, 2) := by decide +kernel
theorem dX0_worthWithin_19 : decode cX0_worthWithin 19 = .ok (.iaload, 1) := by decide +kernel
theorem dX0_worthWithin_20 : decode cX0_worthWithin 20 = .ok (.iload_n 2, 1) := by decide +kernel
theorem dX0_worthWithin_21 : decode cX0_worthWithin 21 = .ok (.if_icmp .ne 17, 3) := by decide +kernel
theorem dX0_worthWithin_24 : decode cX0_worthWithin 24 = .ok (.iload 5, 2) := by decide +kernel
theorem dX0_worthWithin_26 : decode cX0_worthWithin 26 = .ok (.aload_n 0, 1) := by decide +kernel
theorem dX0_worthWithin_27 : decode cX0_worthWithin 27 = .ok (.getfield 21, 3) := by decide +kernel
theorem dX0_worthWithin_30 : decode cX0_worthWithin 30 = .ok (.iload_n 1, 1) := by decide +kernel
theorem dX0_worthWithin_31 : decode cX0_worthWithin 31 = .ok (.aaload, 1) := by decide +kernel
theorem dX0_worthWithin_32 : decode cX0_worthWithin 32 = .ok (.iload 6, 2) := by decide +kernel
theorem dX0_worthWithin_34 : decode cX0_worthWithin 34 = .ok (.iaload, 1) := by decide +kernel
theorem dX0_worthWithin_35 : decode cX0_worthWithin 35 = .ok (.iadd, 1) := by decide +kernel
theorem dX0_worthWithin_36 : decode cX0_worthWithin 36 = .ok (.istore 5, 2) := by decide +kernel
theorem dX0_worthWithin_38 : decode cX0_worthWithin 38 = .ok (.iinc 6 1, 3) := by decide +kernel
theorem dX0_worthWithin_41 : decode cX0_worthWithin 41 = .ok (.goto (-35), 3) := by decide +kernel
theorem dX0_worthWithin_44 : decode cX0_worthWithin 44 = .ok (.iload 5, 2) := by decide +kernel
theorem dX0_worthWithin_46 : decode cX0_worthWithin 46 = .ok (.ireturn, 1) := by decide +kernel
theorem dX0_crumbsOf_0 : decode cX0_crumbsOf 0 = .ok (.iconst 0, 1) := by decide +kernel
theorem dX0_crumbsOf_1 : decode cX0_crumbsOf 1 = .ok (.istore_n 2, 1) := by decide +kernel
theorem dX0_crumbsOf_2 : decode cX0_crumbsOf 2 = .ok (.iconst 0, 1) := by decide +kernel
theorem dX0_crumbsOf_3 : decode cX0_crumbsOf 3 = .ok (.istore_n 3, 1) := by decide +kernel
theorem dX0_crumbsOf_4 : decode cX0_crumbsOf 4 = .ok (.iload_n 3, 1) := by decide +kernel
theorem dX0_crumbsOf_5 : decode cX0_crumbsOf 5 = .ok (.bipush 24, 2) := by decide +kernel
theorem dX0_crumbsOf_7 : decode cX0_crumbsOf 7 = .ok (.if_icmp .ge 22, 3) := by decide +kernel
theorem dX0_crumbsOf_10 : decode cX0_crumbsOf 10 = .ok (.aload_n 0, 1) := by decide +kernel
theorem dX0_crumbsOf_11 : decode cX0_crumbsOf 11 = .ok (.getfield 15, 3) := by decide +kernel
theorem dX0_crumbsOf_14 : decode cX0_crumbsOf 14 = .ok (.iload_n 3, 1) := by decide +kernel
theorem dX0_crumbsOf_15 : decode cX0_crumbsOf 15 = .ok (.iaload, 1) := by decide +kernel
theorem dX0_crumbsOf_16 : decode cX0_crumbsOf 16 = .ok (.iload_n 1, 1) := by decide +kernel
theorem dX0_crumbsOf_17 : decode cX0_crumbsOf 17 = .ok (.if_icmp .ne 6, 3) := by decide +kernel
theorem dX0_crumbsOf_20 : decode cX0_crumbsOf 20 = .ok (.iinc 2 1, 3) := by decide +kernel
theorem dX0_crumbsOf_23 : decode cX0_crumbsOf 23 = .ok (.iinc 3 1, 3) := by decide +kernel
theorem dX0_crumbsOf_26 : decode cX0_crumbsOf 26 = .ok (.goto (-22), 3) := by decide +kernel
theorem dX0_crumbsOf_29 : decode cX0_crumbsOf 29 = .ok (.iload_n 2, 1) := by decide +kernel
theorem dX0_crumbsOf_30 : decode cX0_crumbsOf 30 = .ok (.ireturn, 1) := by decide +kernel
theorem dX0_spansOf_0 : decode cX0_spansOf 0 = .ok (.iconst 0, 1) := by decide +kernel
theorem dX0_spansOf_1 : decode cX0_spansOf 1 = .ok (.istore_n 2, 1) := by decide +kernel
theorem dX0_spansOf_2 : decode cX0_spansOf 2 = .ok (.iconst 0, 1) := by decide +kernel
theorem dX0_spansOf_3 : decode cX0_spansOf 3 = .ok (.istore_n 3, 1) := by decide +kernel
theorem dX0_spansOf_4 : decode cX0_spansOf 4 = .ok (.iload_n 3, 1) := by decide +kernel
theorem dX0_spansOf_5 : decode cX0_spansOf 5 = .ok (.bipush 24, 2) := by decide +kernel
theorem dX0_spansOf_7 : decode cX0_spansOf 7 = .ok (.if_icmp .ge 38, 3) := by decide +kernel
theorem dX0_spansOf_10 : decode cX0_spansOf 10 = .ok (.aload_n 0, 1) := by decide +kernel
theorem dX0_spansOf_11 : decode cX0_spansOf 11 = .ok (.getfield 15, 3) := by decide +kernel
theorem dX0_spansOf_14 : decode cX0_spansOf 14 = .ok (.iload_n 3, 1) := by decide +kernel
theorem dX0_spansOf_15 : decode cX0_spansOf 15 = .ok (.iaload, 1) := by decide +kernel
theorem dX0_spansOf_16 : decode cX0_spansOf 16 = .ok (.iload_n 1, 1) := by decide +kernel
theorem dX0_spansOf_17 : decode cX0_spansOf 17 = .ok (.if_icmp .ne 22, 3) := by decide +kernel
theorem dX0_spansOf_20 : decode cX0_spansOf 20 = .ok (.iload_n 3, 1) := by decide +kernel
theorem dX0_spansOf_21 : decode cX0_spansOf 21 = .ok (.ifCond .eq 15, 3) := by decide +kernel
theorem dX0_spansOf_24 : decode cX0_spansOf 24 = .ok (.aload_n 0, 1) := by decide +kernel
theorem dX0_spansOf_25 : decode cX0_spansOf 25 = .ok (.getfield 15, 3) := by decide +kernel
theorem dX0_spansOf_28 : decode cX0_spansOf 28 = .ok (.iload_n 3, 1) := by decide +kernel
theorem dX0_spansOf_29 : decode cX0_spansOf 29 = .ok (.iconst 1, 1) := by decide +kernel
theorem dX0_spansOf_30 : decode cX0_spansOf 30 = .ok (.isub, 1) := by decide +kernel
theorem dX0_spansOf_31 : decode cX0_spansOf 31 = .ok (.iaload, 1) := by decide +kernel
theorem dX0_spansOf_32 : decode cX0_spansOf 32 = .ok (.iload_n 1, 1) := by decide +kernel
theorem dX0_spansOf_33 : decode cX0_spansOf 33 = .ok (.if_icmp .eq 6, 3) := by decide +kernel
theorem dX0_spansOf_36 : decode cX0_spansOf 36 = .ok (.iinc 2 1, 3) := by decide +kernel
theorem dX0_spansOf_39 : decode cX0_spansOf 39 = .ok (.iinc 3 1, 3) := by decide +kernel
theorem dX0_spansOf_42 : decode cX0_spansOf 42 = .ok (.goto (-38), 3) := by decide +kernel
theorem dX0_spansOf_45 : decode cX0_spansOf 45 = .ok (.iload_n 2, 1) := by decide +kernel
theorem dX0_spansOf_46 : decode cX0_spansOf 46 = .ok (.ireturn, 1) := by decide +kernel
theorem dX0_liesOnTable_0 : decode cX0_liesOnTable 0 = .ok (.iload_n 1, 1) := by decide +kernel
theorem dX0_liesOnTable_1 : decode cX0_liesOnTable 1 = .ok (.istore_n 3, 1) := by decide +kernel
theorem dX0_liesOnTable_2 : decode cX0_liesOnTable 2 = .ok (.iload_n 3, 1) := by decide +kernel
theorem dX0_liesOnTable_3 : decode cX0_liesOnTable 3 = .ok (.iload_n 2, 1) := by decide +kernel
theorem dX0_liesOnTable_4 : decode cX0_liesOnTable 4 = .ok (.if_icmp .gt 21, 3) := by decide +kernel
theorem dX0_liesOnTable_7 : decode cX0_liesOnTable 7 = .ok (.aload_n 0, 1) := by decide +kernel
theorem dX0_liesOnTable_8 : decode cX0_liesOnTable 8 = .ok (.getfield 15, 3) := by decide +kernel
theorem dX0_liesOnTable_11 : decode cX0_liesOnTable 11 = .ok (.iload_n 3, 1) := by decide +kernel
theorem dX0_liesOnTable_12 : decode cX0_liesOnTable 12 = .ok (.iaload, 1) := by decide +kernel
theorem dX0_liesOnTable_13 : decode cX0_liesOnTable 13 = .ok (.iconst (-1), 1) := by decide +kernel
theorem dX0_liesOnTable_14 : decode cX0_liesOnTable 14 = .ok (.if_icmp .eq 5, 3) := by decide +kernel
theorem dX0_liesOnTable_17 : decode cX0_liesOnTable 17 = .ok (.iconst 0, 1) := by decide +kernel
theorem dX0_liesOnTable_18 : decode cX0_liesOnTable 18 = .ok (.ireturn, 1) := by decide +kernel
theorem dX0_liesOnTable_19 : decode cX0_liesOnTable 19 = .ok (.iinc 3 1, 3) := by decide +kernel
theorem dX0_liesOnTable_22 : decode cX0_liesOnTable 22 = .ok (.goto (-20), 3) := by decide +kernel
theorem dX0_liesOnTable_25 : decode cX0_liesOnTable 25 = .ok (.iconst 1, 1) := by decide +kernel
theorem dX0_liesOnTable_26 : decode cX0_liesOnTable 26 = .ok (.ireturn, 1) := by decide +kernel
theorem dX0_handOut_0 : decode cX0_handOut 0 = .ok (.iconst 0, 1) := by decide +kernel
theorem dX0_handOut_1 : decode cX0_handOut 1 = .ok (.istore 4, 2) := by decide +kernel
theorem dX0_handOut_3 : decode cX0_handOut 3 = .ok (.iload_n 2, 1) := by decide +kernel
theorem dX0_handOut_4 : decode cX0_handOut 4 = .ok (.istore 5, 2) := by decide +kernel
theorem dX0_handOut_6 : decode cX0_handOut 6 = .ok (.iload 5, 2) := by decide +kernel
theorem dX0_handOut_8 : decode cX0_handOut 8 = .ok (.iload_n 3, 1) := by decide +kernel
theorem dX0_handOut_9 : decode cX0_handOut 9 = .ok (.if_icmp .gt 31, 3) := by decide +kernel
theorem dX0_handOut_12 : decode cX0_handOut 12 = .ok (.aload_n 0, 1) := by decide +kernel
theorem dX0_handOut_13 : decode cX0_handOut 13 = .ok (.getfield 15, 3) := by decide +kernel
theorem dX0_handOut_16 : decode cX0_handOut 16 = .ok (.iload 5, 2) := by decide +kernel
theorem dX0_handOut_18 : decode cX0_handOut 18 = .ok (.iaload, 1) := by decide +kernel
theorem dX0_handOut_19 : decode cX0_handOut 19 = .ok (.iconst (-1), 1) := by decide +kernel
theorem dX0_handOut_20 : decode cX0_handOut 20 = .ok (.if_icmp .ne 14, 3) := by decide +kernel
theorem dX0_handOut_23 : decode cX0_handOut 23 = .ok (.aload_n 0, 1) := by decide +kernel
theorem dX0_handOut_24 : decode cX0_handOut 24 = .ok (.getfield 15, 3) := by decide +kernel
theorem dX0_handOut_27 : decode cX0_handOut 27 = .ok (.iload 5, 2) := by decide +kernel
theorem dX0_handOut_29 : decode cX0_handOut 29 = .ok (.iload_n 1, 1) := by decide +kernel
theorem dX0_handOut_30 : decode cX0_handOut 30 = .ok (.iastore, 1) := by decide +kernel
theorem dX0_handOut_31 : decode cX0_handOut 31 = .ok (.iinc 4 1, 3) := by decide +kernel
theorem dX0_handOut_34 : decode cX0_handOut 34 = .ok (.iinc 5 1, 3) := by decide +kernel
theorem dX0_handOut_37 : decode cX0_handOut 37 = .ok (.goto (-31), 3) := by decide +kernel
theorem dX0_handOut_40 : decode cX0_handOut 40 = .ok (.iload 4, 2) := by decide +kernel
theorem dX0_handOut_42 : decode cX0_handOut 42 = .ok (.ireturn, 1) := by decide +kernel
theorem dX0_takeBack_0 : decode cX0_takeBack 0 = .ok (.iconst 0, 1) := by decide +kernel
theorem dX0_takeBack_1 : decode cX0_takeBack 1 = .ok (.istore_n 3, 1) := by decide +kernel
theorem dX0_takeBack_2 : decode cX0_takeBack 2 = .ok (.iload_n 1, 1) := by decide +kernel
theorem dX0_takeBack_3 : decode cX0_takeBack 3 = .ok (.istore 4, 2) := by decide +kernel
theorem dX0_takeBack_5 : decode cX0_takeBack 5 = .ok (.iload 4, 2) := by decide +kernel
theorem dX0_takeBack_7 : decode cX0_takeBack 7 = .ok (.iload_n 2, 1) := by decide +kernel
theorem dX0_takeBack_8 : decode cX0_takeBack 8 = .ok (.if_icmp .gt 31, 3) := by decide +kernel
theorem dX0_takeBack_11 : decode cX0_takeBack 11 = .ok (.aload_n 0, 1) := by decide +kernel
theorem dX0_takeBack_12 : decode cX0_takeBack 12 = .ok (.getfield 15, 3) := by decide +kernel
theorem dX0_takeBack_15 : decode cX0_takeBack 15 = .ok (.iload 4, 2) := by decide +kernel
theorem dX0_takeBack_17 : decode cX0_takeBack 17 = .ok (.iaload, 1) := by decide +kernel
theorem dX0_takeBack_18 : decode cX0_takeBack 18 = .ok (.iconst (-1), 1) := by decide +kernel
theorem dX0_takeBack_19 : decode cX0_takeBack 19 = .ok (.if_icmp .eq 14, 3) := by decide +kernel
theorem dX0_takeBack_22 : decode cX0_takeBack 22 = .ok (.aload_n 0, 1) := by decide +kernel
theorem dX0_takeBack_23 : decode cX0_takeBack 23 = .ok (.getfield 15, 3) := by decide +kernel
theorem dX0_takeBack_26 : decode cX0_takeBack 26 = .ok (.iload 4, 2) := by decide +kernel
theorem dX0_takeBack_28 : decode cX0_takeBack 28 = .ok (.iconst (-1), 1) := by decide +kernel
theorem dX0_takeBack_29 : decode cX0_takeBack 29 = .ok (.iastore, 1) := by decide +kernel
theorem dX0_takeBack_30 : decode cX0_takeBack 30 = .ok (.iinc 3 1, 3) := by decide +kernel
theorem dX0_takeBack_33 : decode cX0_takeBack 33 = .ok (.iinc 4 1, 3) := by decide +kernel
theorem dX0_takeBack_36 : decode cX0_takeBack 36 = .ok (.goto (-31), 3) := by decide +kernel
theorem dX0_takeBack_39 : decode cX0_takeBack 39 = .ok (.iload_n 3, 1) := by decide +kernel
theorem dX0_takeBack_40 : decode cX0_takeBack 40 = .ok (.ireturn, 1) := by decide +kernel
set_option maxRecDepth 20000 in
theorem ggX0_findCut_X0_spanWorth : GoodIn wsX0_findCut wsX0_spanWorth := goodIn_r _ [10, 1, 11, 12, 13] (by decide +kernel) (by decide +kernel)
set_option maxRecDepth 20000 in
theorem gX0_findCut_X0_spanWorth : GoodIn wsX0_findCut (wsV RX0 42 RX0 yX0_spanWorth wsX0_spanWorth) := goodIn_app (goodIn_of _ (by decide +kernel)) ggX0_findCut_X0_spanWorth
theorem dX0_findCut_0 : decode cX0_findCut 0 = .ok (.aload_n 0, 1) := by decide +kernel
theorem dX0_findCut_1 : decode cX0_findCut 1 = .ok (.iload_n 1, 1) := by decide +kernel
theorem dX0_findCut_2 : decode cX0_findCut 2 = .ok (.iload_n 2, 1) := by decide +kernel
theorem dX0_findCut_3 : decode cX0_findCut 3 = .ok (.iload_n 3, 1) := by decide +kernel
theorem dX0_findCut_4 : decode cX0_findCut 4 = .ok (.invokevirtual 42, 3) := by decide +kernel
theorem dX0_findCut_7 : decode cX0_findCut 7 = .ok (.istore 4, 2) := by decide +kernel
theorem dX0_findCut_9 : decode cX0_findCut 9 = .ok (.iconst 0, 1) := by decide +kernel
theorem dX0_findCut_10 : decode cX0_findCut 10 = .ok (.istore 5, 2) := by decide +kernel
theorem dX0_findCut_12 : decode cX0_findCut 12 = .ok (.iload_n 2, 1) := by decide +kernel
theorem dX0_findCut_13 : decode cX0_findCut 13 = .ok (.iconst 1, 1) := by decide +kernel
theorem dX0_findCut_14 : decode cX0_findCut 14 = .ok (.iadd, 1) := by decide +kernel
theorem dX0_findCut_15 : decode cX0_findCut 15 = .ok (.istore 6, 2) := by decide +kernel
theorem dX0_findCut_17 : decode cX0_findCut 17 = .ok (.iload 4, 2) := by decide +kernel
theorem dX0_findCut_19 : decode cX0_findCut 19 = .ok (.iconst 1, 1) := by decide +kernel
theorem dX0_findCut_20 : decode cX0_findCut 20 = .ok (.iadd, 1) := by decide +kernel
theorem dX0_findCut_21 : decode cX0_findCut 21 = .ok (.istore 7, 2) := by decide +kernel
theorem dX0_findCut_23 : decode cX0_findCut 23 = .ok (.iload_n 2, 1) := by decide +kernel
theorem dX0_findCut_24 : decode cX0_findCut 24 = .ok (.iconst 1, 1) := by decide +kernel
theorem dX0_findCut_25 : decode cX0_findCut 25 = .ok (.iadd, 1) := by decide +kernel
theorem dX0_findCut_26 : decode cX0_findCut 26 = .ok (.istore 8, 2) := by decide +kernel
theorem dX0_findCut_28 : decode cX0_findCut 28 = .ok (.iload 8, 2) := by decide +kernel
theorem dX0_findCut_30 : decode cX0_findCut 30 = .ok (.iload_n 3, 1) := by decide +kernel
theorem dX0_findCut_31 : decode cX0_findCut 31 = .ok (.if_icmp .gt 52, 3) := by decide +kernel
theorem dX0_findCut_34 : decode cX0_findCut 34 = .ok (.iload 5, 2) := by decide +kernel
theorem dX0_findCut_36 : decode cX0_findCut 36 = .ok (.aload_n 0, 1) := by decide +kernel
theorem dX0_findCut_37 : decode cX0_findCut 37 = .ok (.getfield 21, 3) := by decide +kernel
theorem dX0_findCut_40 : decode cX0_findCut 40 = .ok (.iload_n 1, 1) := by decide +kernel
theorem dX0_findCut_41 : decode cX0_findCut 41 = .ok (.aaload, 1) := by decide +kernel
theorem dX0_findCut_42 : decode cX0_findCut 42 = .ok (.iload 8, 2) := by decide +kernel
theorem dX0_findCut_44 : decode cX0_findCut 44 = .ok (.iconst 1, 1) := by decide +kernel
theorem dX0_findCut_45 : decode cX0_findCut 45 = .ok (.isub, 1) := by decide +kernel
theorem dX0_findCut_46 : decode cX0_findCut 46 = .ok (.iaload, 1) := by decide +kernel
theorem dX0_findCut_47 : decode cX0_findCut 47 = .ok (.iadd, 1) := by decide +kernel
theorem dX0_findCut_48 : decode cX0_findCut 48 = .ok (.istore 5, 2) := by decide +kernel
theorem dX0_findCut_50 : decode cX0_findCut 50 = .ok (.iload 4, 2) := by decide +kernel
theorem dX0_findCut_52 : decode cX0_findCut 52 = .ok (.iconst 2, 1) := by decide +kernel
theorem dX0_findCut_53 : decode cX0_findCut 53 = .ok (.iload 5, 2) := by decide +kernel
theorem dX0_findCut_55 : decode cX0_findCut 55 = .ok (.imul, 1) := by decide +kernel
theorem dX0_findCut_56 : decode cX0_findCut 56 = .ok (.isub, 1) := by decide +kernel
theorem dX0_findCut_57 : decode cX0_findCut 57 = .ok (.invokestatic 50, 3) := by decide +kernel
theorem dX0_findCut_60 : decode cX0_findCut 60 = .ok (.istore 9, 2) := by decide +kernel
theorem dX0_findCut_62 : decode cX0_findCut 62 = .ok (.iload 9, 2) := by decide +kernel
theorem dX0_findCut_64 : decode cX0_findCut 64 = .ok (.iload 7, 2) := by decide +kernel
theorem dX0_findCut_66 : decode cX0_findCut 66 = .ok (.if_icmp .ge 11, 3) := by decide +kernel
theorem dX0_findCut_69 : decode cX0_findCut 69 = .ok (.iload 9, 2) := by decide +kernel
theorem dX0_findCut_71 : decode cX0_findCut 71 = .ok (.istore 7, 2) := by decide +kernel
theorem dX0_findCut_73 : decode cX0_findCut 73 = .ok (.iload 8, 2) := by decide +kernel
theorem dX0_findCut_75 : decode cX0_findCut 75 = .ok (.istore 6, 2) := by decide +kernel
theorem dX0_findCut_77 : decode cX0_findCut 77 = .ok (.iinc 8 1, 3) := by decide +kernel
theorem dX0_findCut_80 : decode cX0_findCut 80 = .ok (.goto (-52), 3) := by decide +kernel
theorem dX0_findCut_83 : decode cX0_findCut 83 = .ok (.iload 6, 2) := by decide +kernel
theorem dX0_findCut_85 : decode cX0_findCut 85 = .ok (.ireturn, 1) := by decide +kernel
set_option maxRecDepth 20000 in
theorem ggX0_trimPiece_X0_worth : GoodIn wsX0_trimPiece wsX0_worth := goodIn_r _ [7, 8, 9, 10, 6, 11, 1, 2, 12, 13, 14] (by decide +kernel) (by decide +kernel)
set_option maxRecDepth 20000 in
theorem gX0_trimPiece_X0_worth : GoodIn wsX0_trimPiece (wsV RX0 56 RX0 yX0_worth wsX0_worth) := goodIn_app (goodIn_of _ (by decide +kernel)) ggX0_trimPiece_X0_worth
theorem dX0_trimPiece_0 : decode cX0_trimPiece 0 = .ok (.aload_n 0, 1) := by decide +kernel
theorem dX0_trimPiece_1 : decode cX0_trimPiece 1 = .ok (.iload_n 2, 1) := by decide +kernel
theorem dX0_trimPiece_2 : decode cX0_trimPiece 2 = .ok (.iload_n 2, 1) := by decide +kernel
theorem dX0_trimPiece_3 : decode cX0_trimPiece 3 = .ok (.invokevirtual 56, 3) := by decide +kernel
theorem dX0_trimPiece_6 : decode cX0_trimPiece 6 = .ok (.istore_n 3, 1) := by decide +kernel
theorem dX0_trimPiece_7 : decode cX0_trimPiece 7 = .ok (.aload_n 0, 1) := by decide +kernel
theorem dX0_trimPiece_8 : decode cX0_trimPiece 8 = .ok (.iload_n 2, 1) := by decide +kernel
theorem dX0_trimPiece_9 : decode cX0_trimPiece 9 = .ok (.iload_n 1, 1) := by decide +kernel
theorem dX0_trimPiece_10 : decode cX0_trimPiece 10 = .ok (.invokevirtual 56, 3) := by decide +kernel
theorem dX0_trimPiece_13 : decode cX0_trimPiece 13 = .ok (.istore 4, 2) := by decide +kernel
theorem dX0_trimPiece_15 : decode cX0_trimPiece 15 = .ok (.iconst 0, 1) := by decide +kernel
theorem dX0_trimPiece_16 : decode cX0_trimPiece 16 = .ok (.istore 5, 2) := by decide +kernel
theorem dX0_trimPiece_18 : decode cX0_trimPiece 18 = .ok (.bipush 23, 2) := by decide +kernel
theorem dX0_trimPiece_20 : decode cX0_trimPiece 20 = .ok (.istore 6, 2) := by decide +kernel
theorem dX0_trimPiece_22 : decode cX0_trimPiece 22 = .ok (.iload 6, 2) := by decide +kernel
theorem dX0_trimPiece_24 : decode cX0_trimPiece 24 = .ok (.ifCond .lt 51, 3) := by decide +kernel
theorem dX0_trimPiece_27 : decode cX0_trimPiece 27 = .ok (.iload 4, 2) := by decide +kernel
theorem dX0_trimPiece_29 : decode cX0_trimPiece 29 = .ok (.iload_n 3, 1) := by decide +kernel
theorem dX0_trimPiece_30 : decode cX0_trimPiece 30 = .ok (.if_icmp .le 45, 3) := by decide +kernel
theorem dX0_trimPiece_33 : decode cX0_trimPiece 33 = .ok (.aload_n 0, 1) := by decide +kernel
theorem dX0_trimPiece_34 : decode cX0_trimPiece 34 = .ok (.getfield 15, 3) := by decide +kernel
theorem dX0_trimPiece_37 : decode cX0_trimPiece 37 = .ok (.iload 6, 2) := by decide +kernel
theorem dX0_trimPiece_39 : decode cX0_trimPiece 39 = .ok (.iaload, 1) := by decide +kernel
theorem dX0_trimPiece_40 : decode cX0_trimPiece 40 = .ok (.iload_n 1, 1) := by decide +kernel
theorem dX0_trimPiece_41 : decode cX0_trimPiece 41 = .ok (.if_icmp .ne 28, 3) := by decide +kernel
theorem dX0_trimPiece_44 : decode cX0_trimPiece 44 = .ok (.aload_n 0, 1) := by decide +kernel
theorem dX0_trimPiece_45 : decode cX0_trimPiece 45 = .ok (.getfield 15, 3) := by decide +kernel
theorem dX0_trimPiece_48 : decode cX0_trimPiece 48 = .ok (.iload 6, 2) := by decide +kernel
theorem dX0_trimPiece_50 : decode cX0_trimPiece 50 = .ok (.iconst (-1), 1) := by decide +kernel
theorem dX0_trimPiece_51 : decode cX0_trimPiece 51 = .ok (.iastore, 1) := by decide +kernel
theorem dX0_trimPiece_52 : decode cX0_trimPiece 52 = .ok (.iload 4, 2) := by decide +kernel
theorem dX0_trimPiece_54 : decode cX0_trimPiece 54 = .ok (.aload_n 0, 1) := by decide +kernel
theorem dX0_trimPiece_55 : decode cX0_trimPiece 55 = .ok (.getfield 21, 3) := by decide +kernel
theorem dX0_trimPiece_58 : decode cX0_trimPiece 58 = .ok (.iload_n 2, 1) := by decide +kernel
theorem dX0_trimPiece_59 : decode cX0_trimPiece 59 = .ok (.aaload, 1) := by decide +kernel
theorem dX0_trimPiece_60 : decode cX0_trimPiece 60 = .ok (.iload 6, 2) := by decide +kernel
theorem dX0_trimPiece_62 : decode cX0_trimPiece 62 = .ok (.iaload, 1) := by decide +kernel
theorem dX0_trimPiece_63 : decode cX0_trimPiece 63 = .ok (.isub, 1) := by decide +kernel
theorem dX0_trimPiece_64 : decode cX0_trimPiece 64 = .ok (.istore 4, 2) := by decide +kernel
theorem dX0_trimPiece_66 : decode cX0_trimPiece 66 = .ok (.iinc 5 1, 3) := by decide +kernel
theorem dX0_trimPiece_69 : decode cX0_trimPiece 69 = .ok (.iinc 6 (-1), 3) := by decide +kernel
theorem dX0_trimPiece_72 : decode cX0_trimPiece 72 = .ok (.goto (-50), 3) := by decide +kernel
theorem dX0_trimPiece_75 : decode cX0_trimPiece 75 = .ok (.iload 5, 2) := by decide +kernel
theorem dX0_trimPiece_77 : decode cX0_trimPiece 77 = .ok (.ireturn, 1) := by decide +kernel
set_option maxRecDepth 20000 in
theorem ggX0_passPieces_X4_placeOf : GoodIn wsX0_passPieces wsX4_placeOf := goodIn_r _ [8, 9, 10, 14, 15, 16] (by decide +kernel) (by decide +kernel)
set_option maxRecDepth 20000 in
theorem gX0_passPieces_X4_placeOf : GoodIn wsX0_passPieces (wsV RX0 60 RX4 yX4_placeOf wsX4_placeOf) := goodIn_app (goodIn_of _ (by decide +kernel)) ggX0_passPieces_X4_placeOf
theorem dX0_passPieces_0 : decode cX0_passPieces 0 = .ok (.iconst 0, 1) := by decide +kernel
theorem dX0_passPieces_1 : decode cX0_passPieces 1 = .ok (.istore_n 2, 1) := by decide +kernel
theorem dX0_passPieces_2 : decode cX0_passPieces 2 = .ok (.iload_n 2, 1) := by decide +kernel
theorem dX0_passPieces_3 : decode cX0_passPieces 3 = .ok (.bipush 24, 2) := by decide +kernel
theorem dX0_passPieces_5 : decode cX0_passPieces 5 = .ok (.if_icmp .ge 55, 3) := by decide +kernel
theorem dX0_passPieces_8 : decode cX0_passPieces 8 = .ok (.aload_n 1, 1) := by decide +kernel
theorem dX0_passPieces_9 : decode cX0_passPieces 9 = .ok (.aload_n 0, 1) := by decide +kernel
theorem dX0_passPieces_10 : decode cX0_passPieces 10 = .ok (.getfield 15, 3) := by decide +kernel
theorem dX0_passPieces_13 : decode cX0_passPieces 13 = .ok (.iload_n 2, 1) := by decide +kernel
theorem dX0_passPieces_14 : decode cX0_passPieces 14 = .ok (.iaload, 1) := by decide +kernel
theorem dX0_passPieces_15 : decode cX0_passPieces 15 = .ok (.invokevirtual 60, 3) := by decide +kernel
theorem dX0_passPieces_18 : decode cX0_passPieces 18 = .ok (.istore_n 3, 1) := by decide +kernel
theorem dX0_passPieces_19 : decode cX0_passPieces 19 = .ok (.iload_n 3, 1) := by decide +kernel
theorem dX0_passPieces_20 : decode cX0_passPieces 20 = .ok (.aload_n 1, 1) := by decide +kernel
theorem dX0_passPieces_21 : decode cX0_passPieces 21 = .ok (.getfield 65, 3) := by decide +kernel
theorem dX0_passPieces_24 : decode cX0_passPieces 24 = .ok (.if_icmp .ge 30, 3) := by decide +kernel
theorem dX0_passPieces_27 : decode cX0_passPieces 27 = .ok (.aload_n 0, 1) := by decide +kernel
theorem dX0_passPieces_28 : decode cX0_passPieces 28 = .ok (.getfield 15, 3) := by decide +kernel
theorem dX0_passPieces_31 : decode cX0_passPieces 31 = .ok (.iload_n 2, 1) := by decide +kernel
theorem dX0_passPieces_32 : decode cX0_passPieces 32 = .ok (.aload_n 1, 1) := by decide +kernel
theorem dX0_passPieces_33 : decode cX0_passPieces 33 = .ok (.getfield 68, 3) := by decide +kernel
theorem dX0_passPieces_36 : decode cX0_passPieces 36 = .ok (.iload_n 3, 1) := by decide +kernel
theorem dX0_passPieces_37 : decode cX0_passPieces 37 = .ok (.ifCond .ne 12, 3) := by decide +kernel
theorem dX0_passPieces_40 : decode cX0_passPieces 40 = .ok (.aload_n 1, 1) := by decide +kernel
theorem dX0_passPieces_41 : decode cX0_passPieces 41 = .ok (.getfield 65, 3) := by decide +kernel
theorem dX0_passPieces_44 : decode cX0_passPieces 44 = .ok (.iconst 1, 1) := by decide +kernel
theorem dX0_passPieces_45 : decode cX0_passPieces 45 = .ok (.isub, 1) := by decide +kernel
theorem dX0_passPieces_46 : decode cX0_passPieces 46 = .ok (.goto 6, 3) := by decide +kernel
theorem dX0_passPieces_49 : decode cX0_passPieces 49 = .ok (.iload_n 3, 1) := by decide +kernel
theorem dX0_passPieces_50 : decode cX0_passPieces 50 = .ok (.iconst 1, 1) := by decide +kernel
theorem dX0_passPieces_51 : decode cX0_passPieces 51 = .ok (.isub, 1) := by decide +kernel
theorem dX0_passPieces_52 : decode cX0_passPieces 52 = .ok (.iaload, 1) := by decide +kernel
theorem dX0_passPieces_53 : decode cX0_passPieces 53 = .ok (.iastore, 1) := by decide +kernel
theorem dX0_passPieces_54 : decode cX0_passPieces 54 = .ok (.iinc 2 1, 3) := by decide +kernel
theorem dX0_passPieces_57 : decode cX0_passPieces 57 = .ok (.goto (-55), 3) := by decide +kernel
theorem dX0_passPieces_60 : decode cX0_passPieces 60 = .ok (.return_, 1) := by decide +kernel
set_option maxRecDepth 20000 in
theorem ggX0_envyOf_X0_worth : GoodIn wsX0_envyOf wsX0_worth := goodIn_r _ [9, 10, 11, 12, 8, 13, 14, 15, 16, 17, 18] (by decide +kernel) (by decide +kernel)
set_option maxRecDepth 20000 in
theorem gX0_envyOf_X0_worth : GoodIn wsX0_envyOf (wsV RX0 56 RX0 yX0_worth wsX0_worth) := goodIn_app (goodIn_of _ (by decide +kernel)) ggX0_envyOf_X0_worth
theorem dX0_envyOf_0 : decode cX0_envyOf 0 = .ok (.iconst 0, 1) := by decide +kernel
theorem dX0_envyOf_1 : decode cX0_envyOf 1 = .ok (.aload_n 0, 1) := by decide +kernel
theorem dX0_envyOf_2 : decode cX0_envyOf 2 = .ok (.iload_n 1, 1) := by decide +kernel
theorem dX0_envyOf_3 : decode cX0_envyOf 3 = .ok (.iload_n 2, 1) := by decide +kernel
theorem dX0_envyOf_4 : decode cX0_envyOf 4 = .ok (.invokevirtual 56, 3) := by decide +kernel
theorem dX0_envyOf_7 : decode cX0_envyOf 7 = .ok (.aload_n 0, 1) := by decide +kernel
theorem dX0_envyOf_8 : decode cX0_envyOf 8 = .ok (.iload_n 1, 1) := by decide +kernel
theorem dX0_envyOf_9 : decode cX0_envyOf 9 = .ok (.iload_n 1, 1) := by decide +kernel
theorem dX0_envyOf_10 : decode cX0_envyOf 10 = .ok (.invokevirtual 56, 3) := by decide +kernel
theorem dX0_envyOf_13 : decode cX0_envyOf 13 = .ok (.isub, 1) := by decide +kernel
theorem dX0_envyOf_14 : decode cX0_envyOf 14 = .ok (.invokestatic 71, 3) := by decide +kernel
theorem dX0_envyOf_17 : decode cX0_envyOf 17 = .ok (.ireturn, 1) := by decide +kernel
set_option maxRecDepth 20000 in
theorem ggX0_arrows_X0_envyOf : GoodIn wsX0_arrows wsX0_envyOf := goodIn_r _ [6, 7, 8, 9, 10, 11, 12, 13, 5, 14, 15, 16, 17, 18, 19, 20, 21, 22, 23] (by decide +kernel) (by decide +kernel)
set_option maxRecDepth 20000 in
theorem gX0_arrows_X0_envyOf : GoodIn wsX0_arrows (wsV RX0 74 RX0 yX0_envyOf wsX0_envyOf) := goodIn_app (goodIn_of _ (by decide +kernel)) ggX0_arrows_X0_envyOf
theorem dX0_arrows_0 : decode cX0_arrows 0 = .ok (.iconst 0, 1) := by decide +kernel
theorem dX0_arrows_1 : decode cX0_arrows 1 = .ok (.istore_n 1, 1) := by decide +kernel
theorem dX0_arrows_2 : decode cX0_arrows 2 = .ok (.iconst 0, 1) := by decide +kernel
theorem dX0_arrows_3 : decode cX0_arrows 3 = .ok (.istore_n 2, 1) := by decide +kernel
theorem dX0_arrows_4 : decode cX0_arrows 4 = .ok (.iload_n 2, 1) := by decide +kernel
theorem dX0_arrows_5 : decode cX0_arrows 5 = .ok (.aload_n 0, 1) := by decide +kernel
theorem dX0_arrows_6 : decode cX0_arrows 6 = .ok (.getfield 9, 3) := by decide +kernel
theorem dX0_arrows_9 : decode cX0_arrows 9 = .ok (.if_icmp .ge 37, 3) := by decide +kernel
theorem dX0_arrows_12 : decode cX0_arrows 12 = .ok (.iconst 0, 1) := by decide +kernel
theorem dX0_arrows_13 : decode cX0_arrows 13 = .ok (.istore_n 3, 1) := by decide +kernel
theorem dX0_arrows_14 : decode cX0_arrows 14 = .ok (.iload_n 3, 1) := by decide +kernel
theorem dX0_arrows_15 : decode cX0_arrows 15 = .ok (.aload_n 0, 1) := by decide +kernel
theorem dX0_arrows_16 : decode cX0_arrows 16 = .ok (.getfield 9, 3) := by decide +kernel
theorem dX0_arrows_19 : decode cX0_arrows 19 = .ok (.if_icmp .ge 21, 3) := by decide +kernel
theorem dX0_arrows_22 : decode cX0_arrows 22 = .ok (.aload_n 0, 1) := by decide +kernel
theorem dX0_arrows_23 : decode cX0_arrows 23 = .ok (.iload_n 2, 1) := by decide +kernel
theorem dX0_arrows_24 : decode cX0_arrows 24 = .ok (.iload_n 3, 1) := by decide +kernel
theorem dX0_arrows_25 : decode cX0_arrows 25 = .ok (.invokevirtual 74, 3) := by decide +kernel
theorem dX0_arrows_28 : decode cX0_arrows 28 = .ok (.ifCond .le 6, 3) := by decide +kernel
theorem dX0_arrows_31 : decode cX0_arrows 31 = .ok (.iinc 1 1, 3) := by decide +kernel
theorem dX0_arrows_34 : decode cX0_arrows 34 = .ok (.iinc 3 1, 3) := by decide +kernel
theorem dX0_arrows_37 : decode cX0_arrows 37 = .ok (.goto (-23), 3) := by decide +kernel
theorem dX0_arrows_40 : decode cX0_arrows 40 = .ok (.iinc 2 1, 3) := by decide +kernel
theorem dX0_arrows_43 : decode cX0_arrows 43 = .ok (.goto (-39), 3) := by decide +kernel
theorem dX0_arrows_46 : decode cX0_arrows 46 = .ok (.iload_n 1, 1) := by decide +kernel
theorem dX0_arrows_47 : decode cX0_arrows 47 = .ok (.ireturn, 1) := by decide +kernel
set_option maxRecDepth 20000 in
theorem ggX0_allEnvies_X0_envyOf : GoodIn wsX0_allEnvies wsX0_envyOf := goodIn_r _ [6, 7, 8, 9, 10, 11, 12, 13, 5, 14, 15, 16, 17, 18, 19, 20, 21, 22, 23] (by decide +kernel) (by decide +kernel)
set_option maxRecDepth 20000 in
theorem gX0_allEnvies_X0_envyOf : GoodIn wsX0_allEnvies (wsV RX0 74 RX0 yX0_envyOf wsX0_envyOf) := goodIn_app (goodIn_of _ (by decide +kernel)) ggX0_allEnvies_X0_envyOf
theorem dX0_allEnvies_0 : decode cX0_allEnvies 0 = .ok (.iconst 0, 1) := by decide +kernel
theorem dX0_allEnvies_1 : decode cX0_allEnvies 1 = .ok (.istore_n 1, 1) := by decide +kernel
theorem dX0_allEnvies_2 : decode cX0_allEnvies 2 = .ok (.iconst 0, 1) := by decide +kernel
theorem dX0_allEnvies_3 : decode cX0_allEnvies 3 = .ok (.istore_n 2, 1) := by decide +kernel
theorem dX0_allEnvies_4 : decode cX0_allEnvies 4 = .ok (.iload_n 2, 1) := by decide +kernel
theorem dX0_allEnvies_5 : decode cX0_allEnvies 5 = .ok (.aload_n 0, 1) := by decide +kernel
theorem dX0_allEnvies_6 : decode cX0_allEnvies 6 = .ok (.getfield 9, 3) := by decide +kernel
theorem dX0_allEnvies_9 : decode cX0_allEnvies 9 = .ok (.if_icmp .ge 34, 3) := by decide +kernel
theorem dX0_allEnvies_12 : decode cX0_allEnvies 12 = .ok (.iconst 0, 1) := by decide +kernel
theorem dX0_allEnvies_13 : decode cX0_allEnvies 13 = .ok (.istore_n 3, 1) := by decide +kernel
theorem dX0_allEnvies_14 : decode cX0_allEnvies 14 = .ok (.iload_n 3, 1) := by decide +kernel
theorem dX0_allEnvies_15 : decode cX0_allEnvies 15 = .ok (.aload_n 0, 1) := by decide +kernel
theorem dX0_allEnvies_16 : decode cX0_allEnvies 16 = .ok (.getfield 9, 3) := by decide +kernel
theorem dX0_allEnvies_19 : decode cX0_allEnvies 19 = .ok (.if_icmp .ge 18, 3) := by decide +kernel
theorem dX0_allEnvies_22 : decode cX0_allEnvies 22 = .ok (.iload_n 1, 1) := by decide +kernel
theorem dX0_allEnvies_23 : decode cX0_allEnvies 23 = .ok (.aload_n 0, 1) := by decide +kernel
theorem dX0_allEnvies_24 : decode cX0_allEnvies 24 = .ok (.iload_n 2, 1) := by decide +kernel
theorem dX0_allEnvies_25 : decode cX0_allEnvies 25 = .ok (.iload_n 3, 1) := by decide +kernel
theorem dX0_allEnvies_26 : decode cX0_allEnvies 26 = .ok (.invokevirtual 74, 3) := by decide +kernel
theorem dX0_allEnvies_29 : decode cX0_allEnvies 29 = .ok (.iadd, 1) := by decide +kernel
theorem dX0_allEnvies_30 : decode cX0_allEnvies 30 = .ok (.istore_n 1, 1) := by decide +kernel
theorem dX0_allEnvies_31 : decode cX0_allEnvies 31 = .ok (.iinc 3 1, 3) := by decide +kernel
theorem dX0_allEnvies_34 : decode cX0_allEnvies 34 = .ok (.goto (-20), 3) := by decide +kernel
theorem dX0_allEnvies_37 : decode cX0_allEnvies 37 = .ok (.iinc 2 1, 3) := by decide +kernel
theorem dX0_allEnvies_40 : decode cX0_allEnvies 40 = .ok (.goto (-36), 3) := by decide +kernel
theorem dX0_allEnvies_43 : decode cX0_allEnvies 43 = .ok (.iload_n 1, 1) := by decide +kernel
theorem dX0_allEnvies_44 : decode cX0_allEnvies 44 = .ok (.ireturn, 1) := by decide +kernel
set_option maxRecDepth 20000 in
theorem ggX0_contentGuests_X0_total : GoodIn wsX0_contentGuests wsX0_total := goodIn_r _ [6, 7, 8, 9, 5, 10, 11, 21, 22, 23] (by decide +kernel) (by decide +kernel)
set_option maxRecDepth 20000 in
theorem gX0_contentGuests_X0_total : GoodIn wsX0_contentGuests (wsV RX0 77 RX0 yX0_total wsX0_total) := goodIn_app (goodIn_of _ (by decide +kernel)) ggX0_contentGuests_X0_total
set_option maxRecDepth 20000 in
theorem ggX0_contentGuests_X0_worth : GoodIn wsX0_contentGuests wsX0_worth := goodIn_r _ [15, 16, 17, 18, 5, 19, 20, 11, 21, 22, 23] (by decide +kernel) (by decide +kernel)
set_option maxRecDepth 20000 in
theorem gX0_contentGuests_X0_worth : GoodIn wsX0_contentGuests (wsV RX0 56 RX0 yX0_worth wsX0_worth) := goodIn_app (goodIn_of _ (by decide +kernel)) ggX0_contentGuests_X0_worth
theorem dX0_contentGuests_0 : decode cX0_contentGuests 0 = .ok (.iconst 0, 1) := by decide +kernel
theorem dX0_contentGuests_1 : decode cX0_contentGuests 1 = .ok (.istore_n 1, 1) := by decide +kernel
theorem dX0_contentGuests_2 : decode cX0_contentGuests 2 = .ok (.iconst 0, 1) := by decide +kernel
theorem dX0_contentGuests_3 : decode cX0_contentGuests 3 = .ok (.istore_n 2, 1) := by decide +kernel
theorem dX0_contentGuests_4 : decode cX0_contentGuests 4 = .ok (.iload_n 2, 1) := by decide +kernel
theorem dX0_contentGuests_5 : decode cX0_contentGuests 5 = .ok (.aload_n 0, 1) := by decide +kernel
theorem dX0_contentGuests_6 : decode cX0_contentGuests 6 = .ok (.getfield 9, 3) := by decide +kernel
theorem dX0_contentGuests_9 : decode cX0_contentGuests 9 = .ok (.if_icmp .ge 37, 3) := by decide +kernel
theorem dX0_contentGuests_12 : decode cX0_contentGuests 12 = .ok (.aload_n 0, 1) := by decide +kernel
theorem dX0_contentGuests_13 : decode cX0_contentGuests 13 = .ok (.iload_n 2, 1) := by decide +kernel
theorem dX0_contentGuests_14 : decode cX0_contentGuests 14 = .ok (.invokevirtual 77, 3) := by decide +kernel
theorem dX0_contentGuests_17 : decode cX0_contentGuests 17 = .ok (.istore_n 3, 1) := by decide +kernel
theorem dX0_contentGuests_18 : decode cX0_contentGuests 18 = .ok (.iload_n 3, 1) := by decide +kernel
theorem dX0_contentGuests_19 : decode cX0_contentGuests 19 = .ok (.ifCond .le 21, 3) := by decide +kernel
theorem dX0_contentGuests_22 : decode cX0_contentGuests 22 = .ok (.aload_n 0, 1) := by decide +kernel
theorem dX0_contentGuests_23 : decode cX0_contentGuests 23 = .ok (.iload_n 2, 1) := by decide +kernel
theorem dX0_contentGuests_24 : decode cX0_contentGuests 24 = .ok (.iload_n 2, 1) := by decide +kernel
theorem dX0_contentGuests_25 : decode cX0_contentGuests 25 = .ok (.invokevirtual 56, 3) := by decide +kernel
theorem dX0_contentGuests_28 : decode cX0_contentGuests 28 = .ok (.aload_n 0, 1) := by decide +kernel
theorem dX0_contentGuests_29 : decode cX0_contentGuests 29 = .ok (.getfield 9, 3) := by decide +kernel
theorem dX0_contentGuests_32 : decode cX0_contentGuests 32 = .ok (.imul, 1) := by decide +kernel
theorem dX0_contentGuests_33 : decode cX0_contentGuests 33 = .ok (.iload_n 3, 1) := by decide +kernel
theorem dX0_contentGuests_34 : decode cX0_contentGuests 34 = .ok (.if_icmp .lt 6, 3) := by decide +kernel
theorem dX0_contentGuests_37 : decode cX0_contentGuests 37 = .ok (.iinc 1 1, 3) := by decide +kernel
theorem dX0_contentGuests_40 : decode cX0_contentGuests 40 = .ok (.iinc 2 1, 3) := by decide +kernel
theorem dX0_contentGuests_43 : decode cX0_contentGuests 43 = .ok (.goto (-39), 3) := by decide +kernel
theorem dX0_contentGuests_46 : decode cX0_contentGuests 46 = .ok (.iload_n 1, 1) := by decide +kernel
theorem dX0_contentGuests_47 : decode cX0_contentGuests 47 = .ok (.ireturn, 1) := by decide +kernel
set_option maxRecDepth 20000 in
theorem ggX1_init_X4_init : GoodIn wsX1_init wsX4_init := goodIn_r _ [24, 25, 2, 3, 7, 26, 27, 28, 43, 44, 45] (by decide +kernel) (by decide +kernel)
set_option maxRecDepth 20000 in
theorem gX1_init_X4_init_n39 : GoodIn wsX1_init (wsX4_init) := ggX1_init_X4_init
theorem dX1_init_0 : decode cX1_init 0 = .ok (.aload_n 0, 1) := by decide +kernel
theorem dX1_init_1 : decode cX1_init 1 = .ok (.invokespecial 3, 3) := by decide +kernel
theorem dX1_init_4 : decode cX1_init 4 = .ok (.aload_n 0, 1) := by decide +kernel
theorem dX1_init_5 : decode cX1_init 5 = .ok (.iconst 0, 1) := by decide +kernel
theorem dX1_init_6 : decode cX1_init 6 = .ok (.putfield 9, 3) := by decide +kernel
theorem dX1_init_9 : decode cX1_init 9 = .ok (.aload_n 0, 1) := by decide +kernel
theorem dX1_init_10 : decode cX1_init 10 = .ok (.iconst 1, 1) := by decide +kernel
theorem dX1_init_11 : decode cX1_init 11 = .ok (.putfield 15, 3) := by decide +kernel
theorem dX1_init_14 : decode cX1_init 14 = .ok (.aload_n 0, 1) := by decide +kernel
theorem dX1_init_15 : decode cX1_init 15 = .ok (.iconst 0, 1) := by decide +kernel
theorem dX1_init_16 : decode cX1_init 16 = .ok (.putfield 18, 3) := by decide +kernel
theorem dX1_init_19 : decode cX1_init 19 = .ok (.aload_n 0, 1) := by decide +kernel
theorem dX1_init_20 : decode cX1_init 20 = .ok (.iconst 4, 1) := by decide +kernel
theorem dX1_init_21 : decode cX1_init 21 = .ok (.newarray .int, 2) := by decide +kernel
theorem dX1_init_23 : decode cX1_init 23 = .ok (.putfield 21, 3) := by decide +kernel
theorem dX1_init_26 : decode cX1_init 26 = .ok (.aload_n 0, 1) := by decide +kernel
theorem dX1_init_27 : decode cX1_init 27 = .ok (.iconst 0, 1) := by decide +kernel
theorem dX1_init_28 : decode cX1_init 28 = .ok (.putfield 25, 3) := by decide +kernel
theorem dX1_init_31 : decode cX1_init 31 = .ok (.aload_n 0, 1) := by decide +kernel
theorem dX1_init_32 : decode cX1_init 32 = .ok (.iconst 0, 1) := by decide +kernel
theorem dX1_init_33 : decode cX1_init 33 = .ok (.putfield 28, 3) := by decide +kernel
theorem dX1_init_36 : decode cX1_init 36 = .ok (.aload_n 0, 1) := by decide +kernel
theorem dX1_init_37 : decode cX1_init 37 = .ok (.iconst 0, 1) := by decide +kernel
theorem dX1_init_38 : decode cX1_init 38 = .ok (.putfield 31, 3) := by decide +kernel
theorem dX1_init_41 : decode cX1_init 41 = .ok (.aload_n 0, 1) := by decide +kernel
theorem dX1_init_42 : decode cX1_init 42 = .ok (.iconst 0, 1) := by decide +kernel
theorem dX1_init_43 : decode cX1_init 43 = .ok (.putfield 34, 3) := by decide +kernel
theorem dX1_init_46 : decode cX1_init 46 = .ok (.aload_n 0, 1) := by decide +kernel
theorem dX1_init_47 : decode cX1_init 47 = .ok (.new 37, 3) := by decide +kernel
theorem dX1_init_50 : decode cX1_init 50 = .ok (.dup, 1) := by decide +kernel
theorem dX1_init_51 : decode cX1_init 51 = .ok (.invokespecial 39, 3) := by decide +kernel
theorem dX1_init_54 : decode cX1_init 54 = .ok (.putfield 40, 3) := by decide +kernel
theorem dX1_init_57 : decode cX1_init 57 = .ok (.aload_n 0, 1) := by decide +kernel
theorem dX1_init_58 : decode cX1_init 58 = .ok (.iconst 5, 1) := by decide +kernel
theorem dX1_init_59 : decode cX1_init 59 = .ok (.newarray .int, 2) := by decide +kernel
theorem dX1_init_61 : decode cX1_init 61 = .ok (.putfield 44, 3) := by decide +kernel
theorem dX1_init_64 : decode cX1_init 64 = .ok (.aload_n 0, 1) := by decide +kernel
theorem dX1_init_65 : decode cX1_init 65 = .ok (.iconst 4, 1) := by decide +kernel
theorem dX1_init_66 : decode cX1_init 66 = .ok (.newarray .int, 2) := by decide +kernel
theorem dX1_init_68 : decode cX1_init 68 = .ok (.putfield 47, 3) := by decide +kernel
theorem dX1_init_71 : decode cX1_init 71 = .ok (.aload_n 0, 1) := by decide +kernel
theorem dX1_init_72 : decode cX1_init 72 = .ok (.iconst 4, 1) := by decide +kernel
theorem dX1_init_73 : decode cX1_init 73 = .ok (.bipush 25, 2) := by decide +kernel
theorem dX1_init_75 : decode cX1_init 75 = .ok (.multianewarray 50 2, 4) := by decide +kernel
theorem dX1_init_79 : decode cX1_init 79 = .ok (.putfield 52, 3) := by decide +kernel
theorem dX1_init_82 : decode cX1_init 82 = .ok (.aload_n 0, 1) := by decide +kernel
theorem dX1_init_83 : decode cX1_init 83 = .ok (.iconst 4, 1) := by decide +kernel
theorem dX1_init_84 : decode cX1_init 84 = .ok (.iconst 4, 1) := by decide +kernel
theorem dX1_init_85 : decode cX1_init 85 = .ok (.multianewarray 50 2, 4) := by decide +kernel
theorem dX1_init_89 : decode cX1_init 89 = .ok (.putfield 55, 3) := by decide +kernel
theorem dX1_init_92 : decode cX1_init 92 = .ok (.aload_n 0, 1) := by decide +kernel
theorem dX1_init_93 : decode cX1_init 93 = .ok (.iconst 4, 1) := by decide +kernel
theorem dX1_init_94 : decode cX1_init 94 = .ok (.newarray .int, 2) := by decide +kernel
theorem dX1_init_96 : decode cX1_init 96 = .ok (.putfield 58, 3) := by decide +kernel
theorem dX1_init_99 : decode cX1_init 99 = .ok (.return_, 1) := by decide +kernel
set_option maxRecDepth 20000 in
theorem ggX1_search_X1_prepare : GoodIn wsX1_search wsX1_prepare := goodIn_r _ [7, 8, 1, 9, 10, 11, 12, 13, 14, 15, 16, 17, 18, 19, 97, 98, 99, 83, 84, 85, 86, 87, 88, 89, 90, 91, 92, 93, 94, 95, 96] (by decide +kernel) (by decide +kernel)
set_option maxRecDepth 20000 in
theorem gX1_search_X1_prepare : GoodIn wsX1_search (wsV RX1 61 RX1 yX1_prepare wsX1_prepare) := goodIn_app (goodIn_of _ (by decide +kernel)) ggX1_search_X1_prepare
set_option maxRecDepth 20000 in
theorem ggX1_search_X1_measureSpans : GoodIn wsX1_search wsX1_measureSpans := goodIn_r _ [23, 1, 24, 25, 12, 19, 15, 16, 17, 18, 83, 84, 85, 86, 87, 88, 89, 90, 91, 92, 93, 94, 95, 96] (by decide +kernel) (by decide +kernel)
set_option maxRecDepth 20000 in
theorem gX1_search_X1_measureSpans : GoodIn wsX1_search (wsV RX1 66 RX1 yX1_measureSpans wsX1_measureSpans) := goodIn_app (goodIn_of _ (by decide +kernel)) ggX1_search_X1_measureSpans
set_option maxRecDepth 20000 in
theorem ggX1_search_X1_seekFair : GoodIn wsX1_search wsX1_seekFair := goodIn_r _ [29, 30, 1, 2, 31, 32, 33, 34, 35, 36, 37, 17, 38, 39, 40, 41, 42, 43, 44, 45, 46, 47, 48, 49, 50, 51, 52, 6, 53, 54, 25, 10, 9, 14, 55, 56, 57, 58, 59, 60, 19, 61, 62, 63, 64, 83, 84, 85, 86, 87, 88, 89, 90, 91, 92, 93, 94, 95, 96, 100, 101, 102] (by decide +kernel) (by decide +kernel)
set_option maxRecDepth 20000 in
theorem gX1_search_X1_seekFair : GoodIn wsX1_search (wsV RX1 69 RX1 yX1_seekFair wsX1_seekFair) := goodIn_app (goodIn_of _ (by decide +kernel)) ggX1_search_X1_seekFair
set_option maxRecDepth 20000 in
theorem ggX1_search_X1_seekQuiet : GoodIn wsX1_search wsX1_seekQuiet := goodIn_r _ [68, 30, 1, 2, 31, 32, 33, 34, 35, 36, 37, 17, 38, 39, 40, 41, 42, 43, 44, 45, 46, 47, 48, 49, 69, 70, 71, 6, 72, 54, 25, 24, 73, 74, 75, 76, 11, 77, 19, 78, 61, 62, 63, 64, 83, 84, 85, 86, 87, 88, 89, 90, 91, 92, 93, 94, 95, 96, 100, 101, 102] (by decide +kernel) (by decide +kernel)
set_option maxRecDepth 20000 in
theorem gX1_search_X1_seekQuiet : GoodIn wsX1_search (wsV RX1 72 RX1 yX1_seekQuiet wsX1_seekQuiet) := goodIn_app (goodIn_of _ (by decide +kernel)) ggX1_search_X1_seekQuiet
set_option maxRecDepth 20000 in
theorem ggX1_search_X1_nextCuts : GoodIn wsX1_search wsX1_nextCuts := goodIn_r _ [82, 1, 19, 83, 84, 85, 86, 87, 88, 89, 90, 91, 92, 93, 94, 95, 96] (by decide +kernel) (by decide +kernel)
set_option maxRecDepth 20000 in
theorem gX1_search_X1_nextCuts : GoodIn wsX1_search (wsV RX1 75 RX1 yX1_nextCuts wsX1_nextCuts) := goodIn_app (goodIn_of _ (by decide +kernel)) ggX1_search_X1_nextCuts
theorem dX1_search_0 : decode cX1_search 0 = .ok (.aload_n 0, 1) := by decide +kernel
theorem dX1_search_1 : decode cX1_search 1 = .ok (.aload_n 1, 1) := by decide +kernel
theorem dX1_search_2 : decode cX1_search 2 = .ok (.invokevirtual 61, 3) := by decide +kernel
theorem dX1_search_5 : decode cX1_search 5 = .ok (.aload_n 0, 1) := by decide +kernel
theorem dX1_search_6 : decode cX1_search 6 = .ok (.getfield 34, 3) := by decide +kernel
theorem dX1_search_9 : decode cX1_search 9 = .ok (.iconst 1, 1) := by decide +kernel
theorem dX1_search_10 : decode cX1_search 10 = .ok (.if_icmp .lt 7, 3) := by decide +kernel
theorem dX1_search_13 : decode cX1_search 13 = .ok (.iconst 1, 1) := by decide +kernel
theorem dX1_search_14 : decode cX1_search 14 = .ok (.goto 4, 3) := by decide +kernel
theorem dX1_search_17 : decode cX1_search 17 = .ok (.iconst 0, 1) := by decide +kernel
theorem dX1_search_18 : decode cX1_search 18 = .ok (.istore_n 2, 1) := by decide +kernel
theorem dX1_search_19 : decode cX1_search 19 = .ok (.iconst 0, 1) := by decide +kernel
theorem dX1_search_20 : decode cX1_search 20 = .ok (.istore_n 3, 1) := by decide +kernel
theorem dX1_search_21 : decode cX1_search 21 = .ok (.iload_n 2, 1) := by decide +kernel
theorem dX1_search_22 : decode cX1_search 22 = .ok (.ifCond .eq 32, 3) := by decide +kernel
theorem dX1_search_25 : decode cX1_search 25 = .ok (.iload_n 3, 1) := by decide +kernel
theorem dX1_search_26 : decode cX1_search 26 = .ok (.ldc 65, 2) := by decide +kernel
theorem dX1_search_28 : decode cX1_search 28 = .ok (.if_icmp .ge 26, 3) := by decide +kernel
theorem dX1_search_31 : decode cX1_search 31 = .ok (.aload_n 0, 1) := by decide +kernel
theorem dX1_search_32 : decode cX1_search 32 = .ok (.invokevirtual 66, 3) := by decide +kernel
theorem dX1_search_35 : decode cX1_search 35 = .ok (.aload_n 0, 1) := by decide +kernel
theorem dX1_search_36 : decode cX1_search 36 = .ok (.invokevirtual 69, 3) := by decide +kernel
theorem dX1_search_39 : decode cX1_search 39 = .ok (.aload_n 0, 1) := by decide +kernel
theorem dX1_search_40 : decode cX1_search 40 = .ok (.invokevirtual 72, 3) := by decide +kernel
theorem dX1_search_43 : decode cX1_search 43 = .ok (.aload_n 0, 1) := by decide +kernel
theorem dX1_search_44 : decode cX1_search 44 = .ok (.invokevirtual 75, 3) := by decide +kernel
theorem dX1_search_47 : decode cX1_search 47 = .ok (.istore_n 2, 1) := by decide +kernel
theorem dX1_search_48 : decode cX1_search 48 = .ok (.iinc 3 1, 3) := by decide +kernel
theorem dX1_search_51 : decode cX1_search 51 = .ok (.goto (-30), 3) := by decide +kernel
theorem dX1_search_54 : decode cX1_search 54 = .ok (.return_, 1) := by decide +kernel
theorem dX1_prepare_0 : decode cX1_prepare 0 = .ok (.aload_n 0, 1) := by decide +kernel
theorem dX1_prepare_1 : decode cX1_prepare 1 = .ok (.aload_n 1, 1) := by decide +kernel
theorem dX1_prepare_2 : decode cX1_prepare 2 = .ok (.getfield 79, 3) := by decide +kernel
theorem dX1_prepare_5 : decode cX1_prepare 5 = .ok (.putfield 34, 3) := by decide +kernel
theorem dX1_prepare_8 : decode cX1_prepare 8 = .ok (.aload_n 0, 1) := by decide +kernel
theorem dX1_prepare_9 : decode cX1_prepare 9 = .ok (.iconst (-1), 1) := by decide +kernel
theorem dX1_prepare_10 : decode cX1_prepare 10 = .ok (.putfield 9, 3) := by decide +kernel
theorem dX1_prepare_13 : decode cX1_prepare 13 = .ok (.aload_n 0, 1) := by decide +kernel
theorem dX1_prepare_14 : decode cX1_prepare 14 = .ok (.iconst 1, 1) := by decide +kernel
theorem dX1_prepare_15 : decode cX1_prepare 15 = .ok (.putfield 15, 3) := by decide +kernel
theorem dX1_prepare_18 : decode cX1_prepare 18 = .ok (.aload_n 0, 1) := by decide +kernel
theorem dX1_prepare_19 : decode cX1_prepare 19 = .ok (.iconst 0, 1) := by decide +kernel
theorem dX1_prepare_20 : decode cX1_prepare 20 = .ok (.putfield 25, 3) := by decide +kernel
theorem dX1_prepare_23 : decode cX1_prepare 23 = .ok (.iconst 0, 1) := by decide +kernel
theorem dX1_prepare_24 : decode cX1_prepare 24 = .ok (.istore_n 2, 1) := by decide +kernel
theorem dX1_prepare_25 : decode cX1_prepare 25 = .ok (.iload_n 2, 1) := by decide +kernel
theorem dX1_prepare_26 : decode cX1_prepare 26 = .ok (.aload_n 0, 1) := by decide +kernel
theorem dX1_prepare_27 : decode cX1_prepare 27 = .ok (.getfield 34, 3) := by decide +kernel
theorem dX1_prepare_30 : decode cX1_prepare 30 = .ok (.if_icmp .ge 69, 3) := by decide +kernel
theorem dX1_prepare_33 : decode cX1_prepare 33 = .ok (.iconst 0, 1) := by decide +kernel
theorem dX1_prepare_34 : decode cX1_prepare 34 = .ok (.istore_n 3, 1) := by decide +kernel
theorem dX1_prepare_35 : decode cX1_prepare 35 = .ok (.iload_n 3, 1) := by decide +kernel
theorem dX1_prepare_36 : decode cX1_prepare 36 = .ok (.bipush 24, 2) := by decide +kernel
theorem dX1_prepare_38 : decode cX1_prepare 38 = .ok (.if_icmp .ge 36, 3) := by decide +kernel
theorem dX1_prepare_41 : decode cX1_prepare 41 = .ok (.aload_n 0, 1) := by decide +kernel
theorem dX1_prepare_42 : decode cX1_prepare 42 = .ok (.getfield 52, 3) := by decide +kernel
theorem dX1_prepare_45 : decode cX1_prepare 45 = .ok (.iload_n 2, 1) := by decide +kernel
theorem dX1_prepare_46 : decode cX1_prepare 46 = .ok (.aaload, 1) := by decide +kernel
theorem dX1_prepare_47 : decode cX1_prepare 47 = .ok (.iload_n 3, 1) := by decide +kernel
theorem dX1_prepare_48 : decode cX1_prepare 48 = .ok (.iconst 1, 1) := by decide +kernel
theorem dX1_prepare_49 : decode cX1_prepare 49 = .ok (.iadd, 1) := by decide +kernel
theorem dX1_prepare_50 : decode cX1_prepare 50 = .ok (.aload_n 0, 1) := by decide +kernel
theorem dX1_prepare_51 : decode cX1_prepare 51 = .ok (.getfield 52, 3) := by decide +kernel
theorem dX1_prepare_54 : decode cX1_prepare 54 = .ok (.iload_n 2, 1) := by decide +kernel
theorem dX1_prepare_55 : decode cX1_prepare 55 = .ok (.aaload, 1) := by decide +kernel
theorem dX1_prepare_56 : decode cX1_prepare 56 = .ok (.iload_n 3, 1) := by decide +kernel
theorem dX1_prepare_57 : decode cX1_prepare 57 = .ok (.iaload, 1) := by decide +kernel
theorem dX1_prepare_58 : decode cX1_prepare 58 = .ok (.aload_n 1, 1) := by decide +kernel
theorem dX1_prepare_59 : decode cX1_prepare 59 = .ok (.getfield 84, 3) := by decide +kernel
theorem dX1_prepare_62 : decode cX1_prepare 62 = .ok (.iload_n 2, 1) := by decide +kernel
theorem dX1_prepare_63 : decode cX1_prepare 63 = .ok (.aaload, 1) := by decide +kernel
theorem dX1_prepare_64 : decode cX1_prepare 64 = .ok (.iload_n 3, 1) := by decide +kernel
theorem dX1_prepare_65 : decode cX1_prepare 65 = .ok (.iaload, 1) := by decide +kernel
theorem dX1_prepare_66 : decode cX1_prepare 66 = .ok (.iadd, 1) := by decide +kernel
theorem dX1_prepare_67 : decode cX1_prepare 67 = .ok (.iastore, 1) := by decide +kernel
theorem dX1_prepare_68 : decode cX1_prepare 68 = .ok (.iinc 3 1, 3) := by decide +kernel
theorem dX1_prepare_71 : decode cX1_prepare 71 = .ok (.goto (-36), 3) := by decide +kernel
theorem dX1_prepare_74 : decode cX1_prepare 74 = .ok (.aload_n 0, 1) := by decide +kernel
theorem dX1_prepare_75 : decode cX1_prepare 75 = .ok (.getfield 47, 3) := by decide +kernel
theorem dX1_prepare_78 : decode cX1_prepare 78 = .ok (.iload_n 2, 1) := by decide +kernel
theorem dX1_prepare_79 : decode cX1_prepare 79 = .ok (.iconst 1, 1) := by decide +kernel
theorem dX1_prepare_80 : decode cX1_prepare 80 = .ok (.aload_n 0, 1) := by decide +kernel
theorem dX1_prepare_81 : decode cX1_prepare 81 = .ok (.getfield 52, 3) := by decide +kernel
theorem dX1_prepare_84 : decode cX1_prepare 84 = .ok (.iload_n 2, 1) := by decide +kernel
theorem dX1_prepare_85 : decode cX1_prepare 85 = .ok (.aaload, 1) := by decide +kernel
theorem dX1_prepare_86 : decode cX1_prepare 86 = .ok (.bipush 24, 2) := by decide +kernel
theorem dX1_prepare_88 : decode cX1_prepare 88 = .ok (.iaload, 1) := by decide +kernel
theorem dX1_prepare_89 : decode cX1_prepare 89 = .ok (.invokestatic 87, 3) := by decide +kernel
theorem dX1_prepare_92 : decode cX1_prepare 92 = .ok (.iastore, 1) := by decide +kernel
theorem dX1_prepare_93 : decode cX1_prepare 93 = .ok (.iinc 2 1, 3) := by decide +kernel
theorem dX1_prepare_96 : decode cX1_prepare 96 = .ok (.goto (-71), 3) := by decide +kernel
theorem dX1_prepare_99 : decode cX1_prepare 99 = .ok (.iconst 0, 1) := by decide +kernel
theorem dX1_prepare_100 : decode cX1_prepare 100 = .ok (.istore_n 2, 1) := by decide +kernel
theorem dX1_prepare_101 : decode cX1_prepare 101 = .ok (.iload_n 2, 1) := by decide +kernel
theorem dX1_prepare_102 : decode cX1_prepare 102 = .ok (.aload_n 0, 1) := by decide +kernel
theorem dX1_prepare_103 : decode cX1_prepare 103 = .ok (.getfield 34, 3) := by decide +kernel
theorem dX1_prepare_106 : decode cX1_prepare 106 = .ok (.if_icmp .ge 16, 3) := by decide +kernel
theorem dX1_prepare_109 : decode cX1_prepare 109 = .ok (.aload_n 0, 1) := by decide +kernel
theorem dX1_prepare_110 : decode cX1_prepare 110 = .ok (.getfield 44, 3) := by decide +kernel
theorem dX1_prepare_113 : decode cX1_prepare 113 = .ok (.iload_n 2, 1) := by decide +kernel
theorem dX1_prepare_114 : decode cX1_prepare 114 = .ok (.iload_n 2, 1) := by decide +kernel
theorem dX1_prepare_115 : decode cX1_prepare 115 = .ok (.iastore, 1) := by decide +kernel
theorem dX1_prepare_116 : decode cX1_prepare 116 = .ok (.iinc 2 1, 3) := by decide +kernel
theorem dX1_prepare_119 : decode cX1_prepare 119 = .ok (.goto (-18), 3) := by decide +kernel
theorem dX1_prepare_122 : decode cX1_prepare 122 = .ok (.aload_n 0, 1) := by decide +kernel
theorem dX1_prepare_123 : decode cX1_prepare 123 = .ok (.getfield 44, 3) := by decide +kernel
theorem dX1_prepare_126 : decode cX1_prepare 126 = .ok (.aload_n 0, 1) := by decide +kernel
theorem dX1_prepare_127 : decode cX1_prepare 127 = .ok (.getfield 34, 3) := by decide +kernel
theorem dX1_prepare_130 : decode cX1_prepare 130 = .ok (.bipush 24, 2) := by decide +kernel
theorem dX1_prepare_132 : decode cX1_prepare 132 = .ok (.iastore, 1) := by decide +kernel
theorem dX1_prepare_133 : decode cX1_prepare 133 = .ok (.return_, 1) := by decide +kernel
theorem dX1_nextCuts_0 : decode cX1_nextCuts 0 = .ok (.aload_n 0, 1) := by decide +kernel
theorem dX1_nextCuts_1 : decode cX1_nextCuts 1 = .ok (.getfield 34, 3) := by decide +kernel
theorem dX1_nextCuts_4 : decode cX1_nextCuts 4 = .ok (.iconst 1, 1) := by decide +kernel
theorem dX1_nextCuts_5 : decode cX1_nextCuts 5 = .ok (.isub, 1) := by decide +kernel
theorem dX1_nextCuts_6 : decode cX1_nextCuts 6 = .ok (.istore_n 1, 1) := by decide +kernel
theorem dX1_nextCuts_7 : decode cX1_nextCuts 7 = .ok (.iload_n 1, 1) := by decide +kernel
theorem dX1_nextCuts_8 : decode cX1_nextCuts 8 = .ok (.iconst 1, 1) := by decide +kernel
theorem dX1_nextCuts_9 : decode cX1_nextCuts 9 = .ok (.if_icmp .lt 73, 3) := by decide +kernel
theorem dX1_nextCuts_12 : decode cX1_nextCuts 12 = .ok (.aload_n 0, 1) := by decide +kernel
theorem dX1_nextCuts_13 : decode cX1_nextCuts 13 = .ok (.getfield 44, 3) := by decide +kernel
theorem dX1_nextCuts_16 : decode cX1_nextCuts 16 = .ok (.iload_n 1, 1) := by decide +kernel
theorem dX1_nextCuts_17 : decode cX1_nextCuts 17 = .ok (.iaload, 1) := by decide +kernel
theorem dX1_nextCuts_18 : decode cX1_nextCuts 18 = .ok (.bipush 24, 2) := by decide +kernel
theorem dX1_nextCuts_20 : decode cX1_nextCuts 20 = .ok (.aload_n 0, 1) := by decide +kernel
theorem dX1_nextCuts_21 : decode cX1_nextCuts 21 = .ok (.getfield 34, 3) := by decide +kernel
theorem dX1_nextCuts_24 : decode cX1_nextCuts 24 = .ok (.isub, 1) := by decide +kernel
theorem dX1_nextCuts_25 : decode cX1_nextCuts 25 = .ok (.iload_n 1, 1) := by decide +kernel
theorem dX1_nextCuts_26 : decode cX1_nextCuts 26 = .ok (.iadd, 1) := by decide +kernel
theorem dX1_nextCuts_27 : decode cX1_nextCuts 27 = .ok (.if_icmp .ge 49, 3) := by decide +kernel
theorem dX1_nextCuts_30 : decode cX1_nextCuts 30 = .ok (.aload_n 0, 1) := by decide +kernel
theorem dX1_nextCuts_31 : decode cX1_nextCuts 31 = .ok (.getfield 44, 3) := by decide +kernel
theorem dX1_nextCuts_34 : decode cX1_nextCuts 34 = .ok (.iload_n 1, 1) := by decide +kernel
theorem dX1_nextCuts_35 : decode cX1_nextCuts 35 = .ok (.dup2, 1) := by decide +kernel
theorem dX1_nextCuts_36 : decode cX1_nextCuts 36 = .ok (.iaload, 1) := by decide +kernel
theorem dX1_nextCuts_37 : decode cX1_nextCuts 37 = .ok (.iconst 1, 1) := by decide +kernel
theorem dX1_nextCuts_38 : decode cX1_nextCuts 38 = .ok (.iadd, 1) := by decide +kernel
theorem dX1_nextCuts_39 : decode cX1_nextCuts 39 = .ok (.iastore, 1) := by decide +kernel
theorem dX1_nextCuts_40 : decode cX1_nextCuts 40 = .ok (.iload_n 1, 1) := by decide +kernel
theorem dX1_nextCuts_41 : decode cX1_nextCuts 41 = .ok (.iconst 1, 1) := by decide +kernel
theorem dX1_nextCuts_42 : decode cX1_nextCuts 42 = .ok (.iadd, 1) := by decide +kernel
theorem dX1_nextCuts_43 : decode cX1_nextCuts 43 = .ok (.istore_n 2, 1) := by decide +kernel
theorem dX1_nextCuts_44 : decode cX1_nextCuts 44 = .ok (.iload_n 2, 1) := by decide +kernel
theorem dX1_nextCuts_45 : decode cX1_nextCuts 45 = .ok (.aload_n 0, 1) := by decide +kernel
theorem dX1_nextCuts_46 : decode cX1_nextCuts 46 = .ok (.getfield 34, 3) := by decide +kernel
theorem dX1_nextCuts_49 : decode cX1_nextCuts 49 = .ok (.if_icmp .ge 25, 3) := by decide +kernel
theorem dX1_nextCuts_52 : decode cX1_nextCuts 52 = .ok (.aload_n 0, 1) := by decide +kernel
theorem dX1_nextCuts_53 : decode cX1_nextCuts 53 = .ok (.getfield 44, 3) := by decide +kernel
theorem dX1_nextCuts_56 : decode cX1_nextCuts 56 = .ok (.iload_n 2, 1) := by decide +kernel
theorem dX1_nextCuts_57 : decode cX1_nextCuts 57 = .ok (.aload_n 0, 1) := by decide +kernel
theorem dX1_nextCuts_58 : decode cX1_nextCuts 58 = .ok (.getfield 44, 3) := by decide +kernel
theorem dX1_nextCuts_61 : decode cX1_nextCuts 61 = .ok (.iload_n 2, 1) := by decide +kernel
theorem dX1_nextCuts_62 : decode cX1_nextCuts 62 = .ok (.iconst 1, 1) := by decide +kernel
theorem dX1_nextCuts_63 : decode cX1_nextCuts 63 = .ok (.isub, 1) := by decide +kernel
theorem dX1_nextCuts_64 : decode cX1_nextCuts 64 = .ok (.iaload, 1) := by decide +kernel
theorem dX1_nextCuts_65 : decode cX1_nextCuts 65 = .ok (.iconst 1, 1) := by decide +kernel
theorem dX1_nextCuts_66 : decode cX1_nextCuts 66 = .ok (.iadd, 1) := by decide +kernel
theorem dX1_nextCuts_67 : decode cX1_nextCuts 67 = .ok (.iastore, 1) := by decide +kernel
theorem dX1_nextCuts_68 : decode cX1_nextCuts 68 = .ok (.iinc 2 1, 3) := by decide +kernel
theorem dX1_nextCuts_71 : decode cX1_nextCuts 71 = .ok (.goto (-27), 3) := by decide +kernel
theorem dX1_nextCuts_74 : decode cX1_nextCuts 74 = .ok (.iconst 1, 1) := by decide +kernel
theorem dX1_nextCuts_75 : decode cX1_nextCuts 75 = .ok (.ireturn, 1) := by decide +kernel
theorem dX1_nextCuts_76 : decode cX1_nextCuts 76 = .ok (.iinc 1 (-1), 3) := by decide +kernel
theorem dX1_nextCuts_79 : decode cX1_nextCuts 79 = .ok (.goto (-72), 3) := by decide +kernel
theorem dX1_nextCuts_82 : decode cX1_nextCuts 82 = .ok (.iconst 0, 1) := by decide +kernel
theorem dX1_nextCuts_83 : decode cX1_nextCuts 83 = .ok (.ireturn, 1) := by decide +kernel
theorem dX1_measureSpans_0 : decode cX1_measureSpans 0 = .ok (.iconst 0, 1) := by decide +kernel
theorem dX1_measureSpans_1 : decode cX1_measureSpans 1 = .ok (.istore_n 1, 1) := by decide +kernel
theorem dX1_measureSpans_2 : decode cX1_measureSpans 2 = .ok (.iload_n 1, 1) := by decide +kernel
theorem dX1_measureSpans_3 : decode cX1_measureSpans 3 = .ok (.aload_n 0, 1) := by decide +kernel
theorem dX1_measureSpans_4 : decode cX1_measureSpans 4 = .ok (.getfield 34, 3) := by decide +kernel
theorem dX1_measureSpans_7 : decode cX1_measureSpans 7 = .ok (.if_icmp .ge 92, 3) := by decide +kernel
theorem dX1_measureSpans_10 : decode cX1_measureSpans 10 = .ok (.aload_n 0, 1) := by decide +kernel
theorem dX1_measureSpans_11 : decode cX1_measureSpans 11 = .ok (.getfield 58, 3) := by decide +kernel
theorem dX1_measureSpans_14 : decode cX1_measureSpans 14 = .ok (.iload_n 1, 1) := by decide +kernel
theorem dX1_measureSpans_15 : decode cX1_measureSpans 15 = .ok (.iconst 0, 1) := by decide +kernel
theorem dX1_measureSpans_16 : decode cX1_measureSpans 16 = .ok (.iastore, 1) := by decide +kernel
theorem dX1_measureSpans_17 : decode cX1_measureSpans 17 = .ok (.iconst 0, 1) := by decide +kernel
theorem dX1_measureSpans_18 : decode cX1_measureSpans 18 = .ok (.istore_n 2, 1) := by decide +kernel
theorem dX1_measureSpans_19 : decode cX1_measureSpans 19 = .ok (.iload_n 2, 1) := by decide +kernel
theorem dX1_measureSpans_20 : decode cX1_measureSpans 20 = .ok (.aload_n 0, 1) := by decide +kernel
theorem dX1_measureSpans_21 : decode cX1_measureSpans 21 = .ok (.getfield 34, 3) := by decide +kernel
theorem dX1_measureSpans_24 : decode cX1_measureSpans 24 = .ok (.if_icmp .ge 69, 3) := by decide +kernel
theorem dX1_measureSpans_27 : decode cX1_measureSpans 27 = .ok (.aload_n 0, 1) := by decide +kernel
theorem dX1_measureSpans_28 : decode cX1_measureSpans 28 = .ok (.getfield 55, 3) := by decide +kernel
theorem dX1_measureSpans_31 : decode cX1_measureSpans 31 = .ok (.iload_n 1, 1) := by decide +kernel
theorem dX1_measureSpans_32 : decode cX1_measureSpans 32 = .ok (.aaload, 1) := by decide +kernel
theorem dX1_measureSpans_33 : decode cX1_measureSpans 33 = .ok (.iload_n 2, 1) := by decide +kernel
theorem dX1_measureSpans_34 : decode cX1_measureSpans 34 = .ok (.aload_n 0, 1) := by decide +kernel
theorem dX1_measureSpans_35 : decode cX1_measureSpans 35 = .ok (.getfield 52, 3) := by decide +kernel
theorem dX1_measureSpans_38 : decode cX1_measureSpans 38 = .ok (.iload_n 1, 1) := by decide +kernel
theorem dX1_measureSpans_39 : decode cX1_measureSpans 39 = .ok (.aaload, 1) := by decide +kernel
theorem dX1_measureSpans_40 : decode cX1_measureSpans 40 = .ok (.aload_n 0, 1) := by decide +kernel
theorem dX1_measureSpans_41 : decode cX1_measureSpans 41 = .ok (.getfield 44, 3) := by decide +kernel
theorem dX1_measureSpans_44 : decode cX1_measureSpans 44 = .ok (.iload_n 2, 1) := by decide +kernel
theorem dX1_measureSpans_45 : decode cX1_measureSpans 45 = .ok (.iconst 1, 1) := by decide +kernel
theorem dX1_measureSpans_46 : decode cX1_measureSpans 46 = .ok (.iadd, 1) := by decide +kernel
theorem dX1_measureSpans_47 : decode cX1_measureSpans 47 = .ok (.iaload, 1) := by decide +kernel
theorem dX1_measureSpans_48 : decode cX1_measureSpans 48 = .ok (.iaload, 1) := by decide +kernel
theorem dX1_measureSpans_49 : decode cX1_measureSpans 49 = .ok (.aload_n 0, 1) := by decide +kernel
theorem dX1_measureSpans_50 : decode cX1_measureSpans 50 = .ok (.getfield 52, 3) := by decide +kernel
theorem dX1_measureSpans_53 : decode cX1_measureSpans 53 = .ok (.iload_n 1, 1) := by decide +kernel
theorem dX1_measureSpans_54 : decode cX1_measureSpans 54 = .ok (.aaload, 1) := by decide +kernel
theorem dX1_measureSpans_55 : decode cX1_measureSpans 55 = .ok (.aload_n 0, 1) := by decide +kernel
theorem dX1_measureSpans_56 : decode cX1_measureSpans 56 = .ok (.getfield 44, 3) := by decide +kernel
theorem dX1_measureSpans_59 : decode cX1_measureSpans 59 = .ok (.iload_n 2, 1) := by decide +kernel
theorem dX1_measureSpans_60 : decode cX1_measureSpans 60 = .ok (.iaload, 1) := by decide +kernel
theorem dX1_measureSpans_61 : decode cX1_measureSpans 61 = .ok (.iaload, 1) := by decide +kernel
theorem dX1_measureSpans_62 : decode cX1_measureSpans 62 = .ok (.isub, 1) := by decide +kernel
theorem dX1_measureSpans_63 : decode cX1_measureSpans 63 = .ok (.iastore, 1) := by decide +kernel
theorem dX1_measureSpans_64 : decode cX1_measureSpans 64 = .ok (.aload_n 0, 1) := by decide +kernel
theorem dX1_measureSpans_65 : decode cX1_measureSpans 65 = .ok (.getfield 58, 3) := by decide +kernel
theorem dX1_measureSpans_68 : decode cX1_measureSpans 68 = .ok (.iload_n 1, 1) := by decide +kernel
theorem dX1_measureSpans_69 : decode cX1_measureSpans 69 = .ok (.aload_n 0, 1) := by decide +kernel
theorem dX1_measureSpans_70 : decode cX1_measureSpans 70 = .ok (.getfield 58, 3) := by decide +kernel
theorem dX1_measureSpans_73 : decode cX1_measureSpans 73 = .ok (.iload_n 1, 1) := by decide +kernel
theorem dX1_measureSpans_74 : decode cX1_measureSpans 74 = .ok (.iaload, 1) := by decide +kernel
theorem dX1_measureSpans_75 : decode cX1_measureSpans 75 = .ok (.aload_n 0, 1) := by decide +kernel
theorem dX1_measureSpans_76 : decode cX1_measureSpans 76 = .ok (.getfield 55, 3) := by decide +kernel
theorem dX1_measureSpans_79 : decode cX1_measureSpans 79 = .ok (.iload_n 1, 1) := by decide +kernel
theorem dX1_measureSpans_80 : decode cX1_measureSpans 80 = .ok (.aaload, 1) := by decide +kernel
theorem dX1_measureSpans_81 : decode cX1_measureSpans 81 = .ok (.iload_n 2, 1) := by decide +kernel
theorem dX1_measureSpans_82 : decode cX1_measureSpans 82 = .ok (.iaload, 1) := by decide +kernel
theorem dX1_measureSpans_83 : decode cX1_measureSpans 83 = .ok (.invokestatic 87, 3) := by decide +kernel
theorem dX1_measureSpans_86 : decode cX1_measureSpans 86 = .ok (.iastore, 1) := by decide +kernel
theorem dX1_measureSpans_87 : decode cX1_measureSpans 87 = .ok (.iinc 2 1, 3) := by decide +kernel
theorem dX1_measureSpans_90 : decode cX1_measureSpans 90 = .ok (.goto (-71), 3) := by decide +kernel
theorem dX1_measureSpans_93 : decode cX1_measureSpans 93 = .ok (.iinc 1 1, 3) := by decide +kernel
theorem dX1_measureSpans_96 : decode cX1_measureSpans 96 = .ok (.goto (-94), 3) := by decide +kernel
theorem dX1_measureSpans_99 : decode cX1_measureSpans 99 = .ok (.return_, 1) := by decide +kernel
set_option maxRecDepth 20000 in
theorem ggX1_seekFair_X4_begin : GoodIn wsX1_seekFair wsX4_begin := goodIn_r _ [8, 9, 10, 11, 12, 13, 14, 15, 16, 17, 7, 18, 19, 20, 21, 22, 23, 59, 60, 61] (by decide +kernel) (by decide +kernel)
set_option maxRecDepth 20000 in
theorem gX1_seekFair_X4_begin : GoodIn wsX1_seekFair (wsV RX1 93 RX4 yX4_begin wsX4_begin) := goodIn_app (goodIn_of _ (by decide +kernel)) ggX1_seekFair_X4_begin
set_option maxRecDepth 20000 in
theorem ggX1_seekFair_X1_firstPoor : GoodIn wsX1_seekFair wsX1_firstPoor := goodIn_r _ [28, 2, 1, 29, 30, 31, 32, 33, 45, 46, 47, 48, 49, 50, 51, 52, 53, 54, 55, 56, 57, 58, 59, 60, 61] (by decide +kernel) (by decide +kernel)
set_option maxRecDepth 20000 in
theorem gX1_seekFair_X1_firstPoor : GoodIn wsX1_seekFair (wsV RX1 97 RX1 yX1_firstPoor wsX1_firstPoor) := goodIn_app (goodIn_of _ (by decide +kernel)) ggX1_seekFair_X1_firstPoor
set_option maxRecDepth 20000 in
theorem ggX1_seekFair_X1_keepFair : GoodIn wsX1_seekFair wsX1_keepFair := goodIn_r _ [37, 1, 29, 38, 30, 32, 33, 31, 2, 39, 40, 45, 46, 47, 48, 49, 50, 51, 52, 53, 54, 55, 56, 57, 58, 59, 60, 61] (by decide +kernel) (by decide +kernel)
set_option maxRecDepth 20000 in
theorem gX1_seekFair_X1_keepFair : GoodIn wsX1_seekFair (wsV RX1 101 RX1 yX1_keepFair wsX1_keepFair) := goodIn_app (goodIn_of _ (by decide +kernel)) ggX1_seekFair_X1_keepFair
set_option maxRecDepth 20000 in
theorem ggX1_seekFair_X4_advance : GoodIn wsX1_seekFair wsX4_advance := goodIn_r _ [44, 13, 9, 10, 11, 12, 19, 14, 20, 21, 22, 7, 23, 15, 16, 17, 18, 59, 60, 61] (by decide +kernel) (by decide +kernel)
set_option maxRecDepth 20000 in
theorem gX1_seekFair_X4_advance : GoodIn wsX1_seekFair (wsV RX1 104 RX4 yX4_advance wsX4_advance) := goodIn_app (goodIn_of _ (by decide +kernel)) ggX1_seekFair_X4_advance
theorem dX1_seekFair_0 : decode cX1_seekFair 0 = .ok (.aload_n 0, 1) := by decide +kernel
theorem dX1_seekFair_1 : decode cX1_seekFair 1 = .ok (.getfield 40, 3) := by decide +kernel
theorem dX1_seekFair_4 : decode cX1_seekFair 4 = .ok (.aload_n 0, 1) := by decide +kernel
theorem dX1_seekFair_5 : decode cX1_seekFair 5 = .ok (.getfield 34, 3) := by decide +kernel
theorem dX1_seekFair_8 : decode cX1_seekFair 8 = .ok (.aload_n 0, 1) := by decide +kernel
theorem dX1_seekFair_9 : decode cX1_seekFair 9 = .ok (.getfield 34, 3) := by decide +kernel
theorem dX1_seekFair_12 : decode cX1_seekFair 12 = .ok (.invokevirtual 93, 3) := by decide +kernel
theorem dX1_seekFair_15 : decode cX1_seekFair 15 = .ok (.iconst 1, 1) := by decide +kernel
theorem dX1_seekFair_16 : decode cX1_seekFair 16 = .ok (.istore_n 1, 1) := by decide +kernel
theorem dX1_seekFair_17 : decode cX1_seekFair 17 = .ok (.iconst 0, 1) := by decide +kernel
theorem dX1_seekFair_18 : decode cX1_seekFair 18 = .ok (.istore_n 2, 1) := by decide +kernel
theorem dX1_seekFair_19 : decode cX1_seekFair 19 = .ok (.iload_n 1, 1) := by decide +kernel
theorem dX1_seekFair_20 : decode cX1_seekFair 20 = .ok (.ifCond .eq 41, 3) := by decide +kernel
theorem dX1_seekFair_23 : decode cX1_seekFair 23 = .ok (.iload_n 2, 1) := by decide +kernel
theorem dX1_seekFair_24 : decode cX1_seekFair 24 = .ok (.ldc 65, 2) := by decide +kernel
theorem dX1_seekFair_26 : decode cX1_seekFair 26 = .ok (.if_icmp .ge 35, 3) := by decide +kernel
theorem dX1_seekFair_29 : decode cX1_seekFair 29 = .ok (.aload_n 0, 1) := by decide +kernel
theorem dX1_seekFair_30 : decode cX1_seekFair 30 = .ok (.invokevirtual 97, 3) := by decide +kernel
theorem dX1_seekFair_33 : decode cX1_seekFair 33 = .ok (.istore_n 3, 1) := by decide +kernel
theorem dX1_seekFair_34 : decode cX1_seekFair 34 = .ok (.iload_n 3, 1) := by decide +kernel
theorem dX1_seekFair_35 : decode cX1_seekFair 35 = .ok (.aload_n 0, 1) := by decide +kernel
theorem dX1_seekFair_36 : decode cX1_seekFair 36 = .ok (.getfield 34, 3) := by decide +kernel
theorem dX1_seekFair_39 : decode cX1_seekFair 39 = .ok (.if_icmp .ne 7, 3) := by decide +kernel
theorem dX1_seekFair_42 : decode cX1_seekFair 42 = .ok (.aload_n 0, 1) := by decide +kernel
theorem dX1_seekFair_43 : decode cX1_seekFair 43 = .ok (.invokevirtual 101, 3) := by decide +kernel
theorem dX1_seekFair_46 : decode cX1_seekFair 46 = .ok (.aload_n 0, 1) := by decide +kernel
theorem dX1_seekFair_47 : decode cX1_seekFair 47 = .ok (.getfield 40, 3) := by decide +kernel
theorem dX1_seekFair_50 : decode cX1_seekFair 50 = .ok (.iload_n 3, 1) := by decide +kernel
theorem dX1_seekFair_51 : decode cX1_seekFair 51 = .ok (.invokevirtual 104, 3) := by decide +kernel
theorem dX1_seekFair_54 : decode cX1_seekFair 54 = .ok (.istore_n 1, 1) := by decide +kernel
theorem dX1_seekFair_55 : decode cX1_seekFair 55 = .ok (.iinc 2 1, 3) := by decide +kernel
theorem dX1_seekFair_58 : decode cX1_seekFair 58 = .ok (.goto (-39), 3) := by decide +kernel
theorem dX1_seekFair_61 : decode cX1_seekFair 61 = .ok (.return_, 1) := by decide +kernel
theorem dX1_firstPoor_0 : decode cX1_firstPoor 0 = .ok (.iconst 0, 1) := by decide +kernel
theorem dX1_firstPoor_1 : decode cX1_firstPoor 1 = .ok (.istore_n 1, 1) := by decide +kernel
theorem dX1_firstPoor_2 : decode cX1_firstPoor 2 = .ok (.iload_n 1, 1) := by decide +kernel
theorem dX1_firstPoor_3 : decode cX1_firstPoor 3 = .ok (.aload_n 0, 1) := by decide +kernel
theorem dX1_firstPoor_4 : decode cX1_firstPoor 4 = .ok (.getfield 34, 3) := by decide +kernel
theorem dX1_firstPoor_7 : decode cX1_firstPoor 7 = .ok (.if_icmp .ge 48, 3) := by decide +kernel
theorem dX1_firstPoor_10 : decode cX1_firstPoor 10 = .ok (.aload_n 0, 1) := by decide +kernel
theorem dX1_firstPoor_11 : decode cX1_firstPoor 11 = .ok (.getfield 40, 3) := by decide +kernel
theorem dX1_firstPoor_14 : decode cX1_firstPoor 14 = .ok (.getfield 108, 3) := by decide +kernel
theorem dX1_firstPoor_17 : decode cX1_firstPoor 17 = .ok (.iload_n 1, 1) := by decide +kernel
theorem dX1_firstPoor_18 : decode cX1_firstPoor 18 = .ok (.iaload, 1) := by decide +kernel
theorem dX1_firstPoor_19 : decode cX1_firstPoor 19 = .ok (.istore_n 2, 1) := by decide +kernel
theorem dX1_firstPoor_20 : decode cX1_firstPoor 20 = .ok (.aload_n 0, 1) := by decide +kernel
theorem dX1_firstPoor_21 : decode cX1_firstPoor 21 = .ok (.getfield 55, 3) := by decide +kernel
theorem dX1_firstPoor_24 : decode cX1_firstPoor 24 = .ok (.iload_n 2, 1) := by decide +kernel
theorem dX1_firstPoor_25 : decode cX1_firstPoor 25 = .ok (.aaload, 1) := by decide +kernel
theorem dX1_firstPoor_26 : decode cX1_firstPoor 26 = .ok (.iload_n 1, 1) := by decide +kernel
theorem dX1_firstPoor_27 : decode cX1_firstPoor 27 = .ok (.iaload, 1) := by decide +kernel
theorem dX1_firstPoor_28 : decode cX1_firstPoor 28 = .ok (.aload_n 0, 1) := by decide +kernel
theorem dX1_firstPoor_29 : decode cX1_firstPoor 29 = .ok (.getfield 15, 3) := by decide +kernel
theorem dX1_firstPoor_32 : decode cX1_firstPoor 32 = .ok (.imul, 1) := by decide +kernel
theorem dX1_firstPoor_33 : decode cX1_firstPoor 33 = .ok (.aload_n 0, 1) := by decide +kernel
theorem dX1_firstPoor_34 : decode cX1_firstPoor 34 = .ok (.getfield 9, 3) := by decide +kernel
theorem dX1_firstPoor_37 : decode cX1_firstPoor 37 = .ok (.aload_n 0, 1) := by decide +kernel
theorem dX1_firstPoor_38 : decode cX1_firstPoor 38 = .ok (.getfield 47, 3) := by decide +kernel
theorem dX1_firstPoor_41 : decode cX1_firstPoor 41 = .ok (.iload_n 2, 1) := by decide +kernel
theorem dX1_firstPoor_42 : decode cX1_firstPoor 42 = .ok (.iaload, 1) := by decide +kernel
theorem dX1_firstPoor_43 : decode cX1_firstPoor 43 = .ok (.imul, 1) := by decide +kernel
theorem dX1_firstPoor_44 : decode cX1_firstPoor 44 = .ok (.if_icmp .gt 5, 3) := by decide +kernel
theorem dX1_firstPoor_47 : decode cX1_firstPoor 47 = .ok (.iload_n 1, 1) := by decide +kernel
theorem dX1_firstPoor_48 : decode cX1_firstPoor 48 = .ok (.ireturn, 1) := by decide +kernel
theorem dX1_firstPoor_49 : decode cX1_firstPoor 49 = .ok (.iinc 1 1, 3) := by decide +kernel
theorem dX1_firstPoor_52 : decode cX1_firstPoor 52 = .ok (.goto (-50), 3) := by decide +kernel
theorem dX1_firstPoor_55 : decode cX1_firstPoor 55 = .ok (.aload_n 0, 1) := by decide +kernel
theorem dX1_firstPoor_56 : decode cX1_firstPoor 56 = .ok (.getfield 34, 3) := by decide +kernel
theorem dX1_firstPoor_59 : decode cX1_firstPoor 59 = .ok (.ireturn, 1) := by decide +kernel
theorem dX1_keepFair_0 : decode cX1_keepFair 0 = .ok (.aload_n 0, 1) := by decide +kernel
theorem dX1_keepFair_1 : decode cX1_keepFair 1 = .ok (.aload_n 0, 1) := by decide +kernel
theorem dX1_keepFair_2 : decode cX1_keepFair 2 = .ok (.getfield 40, 3) := by decide +kernel
theorem dX1_keepFair_5 : decode cX1_keepFair 5 = .ok (.getfield 108, 3) := by decide +kernel
theorem dX1_keepFair_8 : decode cX1_keepFair 8 = .ok (.iconst 0, 1) := by decide +kernel
theorem dX1_keepFair_9 : decode cX1_keepFair 9 = .ok (.iaload, 1) := by decide +kernel
theorem dX1_keepFair_10 : decode cX1_keepFair 10 = .ok (.putfield 18, 3) := by decide +kernel
theorem dX1_keepFair_13 : decode cX1_keepFair 13 = .ok (.aload_n 0, 1) := by decide +kernel
theorem dX1_keepFair_14 : decode cX1_keepFair 14 = .ok (.aload_n 0, 1) := by decide +kernel
theorem dX1_keepFair_15 : decode cX1_keepFair 15 = .ok (.getfield 55, 3) := by decide +kernel
theorem dX1_keepFair_18 : decode cX1_keepFair 18 = .ok (.aload_n 0, 1) := by decide +kernel
theorem dX1_keepFair_19 : decode cX1_keepFair 19 = .ok (.getfield 18, 3) := by decide +kernel
theorem dX1_keepFair_22 : decode cX1_keepFair 22 = .ok (.aaload, 1) := by decide +kernel
theorem dX1_keepFair_23 : decode cX1_keepFair 23 = .ok (.iconst 0, 1) := by decide +kernel
theorem dX1_keepFair_24 : decode cX1_keepFair 24 = .ok (.iaload, 1) := by decide +kernel
theorem dX1_keepFair_25 : decode cX1_keepFair 25 = .ok (.putfield 9, 3) := by decide +kernel
theorem dX1_keepFair_28 : decode cX1_keepFair 28 = .ok (.aload_n 0, 1) := by decide +kernel
theorem dX1_keepFair_29 : decode cX1_keepFair 29 = .ok (.aload_n 0, 1) := by decide +kernel
theorem dX1_keepFair_30 : decode cX1_keepFair 30 = .ok (.getfield 47, 3) := by decide +kernel
theorem dX1_keepFair_33 : decode cX1_keepFair 33 = .ok (.aload_n 0, 1) := by decide +kernel
theorem dX1_keepFair_34 : decode cX1_keepFair 34 = .ok (.getfield 18, 3) := by decide +kernel
theorem dX1_keepFair_37 : decode cX1_keepFair 37 = .ok (.iaload, 1) := by decide +kernel
theorem dX1_keepFair_38 : decode cX1_keepFair 38 = .ok (.putfield 15, 3) := by decide +kernel
theorem dX1_keepFair_41 : decode cX1_keepFair 41 = .ok (.iconst 0, 1) := by decide +kernel
theorem dX1_keepFair_42 : decode cX1_keepFair 42 = .ok (.istore_n 1, 1) := by decide +kernel
theorem dX1_keepFair_43 : decode cX1_keepFair 43 = .ok (.iload_n 1, 1) := by decide +kernel
theorem dX1_keepFair_44 : decode cX1_keepFair 44 = .ok (.aload_n 0, 1) := by decide +kernel
theorem dX1_keepFair_45 : decode cX1_keepFair 45 = .ok (.getfield 34, 3) := by decide +kernel
theorem dX1_keepFair_48 : decode cX1_keepFair 48 = .ok (.if_icmp .ge 80, 3) := by decide +kernel
theorem dX1_keepFair_51 : decode cX1_keepFair 51 = .ok (.aload_n 0, 1) := by decide +kernel
theorem dX1_keepFair_52 : decode cX1_keepFair 52 = .ok (.getfield 40, 3) := by decide +kernel
theorem dX1_keepFair_55 : decode cX1_keepFair 55 = .ok (.getfield 108, 3) := by decide +kernel
theorem dX1_keepFair_58 : decode cX1_keepFair 58 = .ok (.iload_n 1, 1) := by decide +kernel
theorem dX1_keepFair_59 : decode cX1_keepFair 59 = .ok (.iaload, 1) := by decide +kernel
theorem dX1_keepFair_60 : decode cX1_keepFair 60 = .ok (.istore_n 2, 1) := by decide +kernel
theorem dX1_keepFair_61 : decode cX1_keepFair 61 = .ok (.aload_n 0, 1) := by decide +kernel
theorem dX1_keepFair_62 : decode cX1_keepFair 62 = .ok (.getfield 21, 3) := by decide +kernel
theorem dX1_keepFair_65 : decode cX1_keepFair 65 = .ok (.iload_n 1, 1) := by decide +kernel
theorem dX1_keepFair_66 : decode cX1_keepFair 66 = .ok (.aload_n 0, 1) := by decide +kernel
theorem dX1_keepFair_67 : decode cX1_keepFair 67 = .ok (.getfield 44, 3) := by decide +kernel
theorem dX1_keepFair_70 : decode cX1_keepFair 70 = .ok (.iload_n 1, 1) := by decide +kernel
theorem dX1_keepFair_71 : decode cX1_keepFair 71 = .ok (.iaload, 1) := by decide +kernel
theorem dX1_keepFair_72 : decode cX1_keepFair 72 = .ok (.iastore, 1) := by decide +kernel
theorem dX1_keepFair_73 : decode cX1_keepFair 73 = .ok (.aload_n 0, 1) := by decide +kernel
theorem dX1_keepFair_74 : decode cX1_keepFair 74 = .ok (.getfield 55, 3) := by decide +kernel
theorem dX1_keepFair_77 : decode cX1_keepFair 77 = .ok (.iload_n 2, 1) := by decide +kernel
theorem dX1_keepFair_78 : decode cX1_keepFair 78 = .ok (.aaload, 1) := by decide +kernel
theorem dX1_keepFair_79 : decode cX1_keepFair 79 = .ok (.iload_n 1, 1) := by decide +kernel
theorem dX1_keepFair_80 : decode cX1_keepFair 80 = .ok (.iaload, 1) := by decide +kernel
theorem dX1_keepFair_81 : decode cX1_keepFair 81 = .ok (.aload_n 0, 1) := by decide +kernel
theorem dX1_keepFair_82 : decode cX1_keepFair 82 = .ok (.getfield 15, 3) := by decide +kernel
theorem dX1_keepFair_85 : decode cX1_keepFair 85 = .ok (.imul, 1) := by decide +kernel
theorem dX1_keepFair_86 : decode cX1_keepFair 86 = .ok (.aload_n 0, 1) := by decide +kernel
theorem dX1_keepFair_87 : decode cX1_keepFair 87 = .ok (.getfield 9, 3) := by decide +kernel
theorem dX1_keepFair_90 : decode cX1_keepFair 90 = .ok (.aload_n 0, 1) := by decide +kernel
theorem dX1_keepFair_91 : decode cX1_keepFair 91 = .ok (.getfield 47, 3) := by decide +kernel
theorem dX1_keepFair_94 : decode cX1_keepFair 94 = .ok (.iload_n 2, 1) := by decide +kernel
theorem dX1_keepFair_95 : decode cX1_keepFair 95 = .ok (.iaload, 1) := by decide +kernel
theorem dX1_keepFair_96 : decode cX1_keepFair 96 = .ok (.imul, 1) := by decide +kernel
theorem dX1_keepFair_97 : decode cX1_keepFair 97 = .ok (.if_icmp .ge 25, 3) := by decide +kernel
theorem dX1_keepFair_100 : decode cX1_keepFair 100 = .ok (.aload_n 0, 1) := by decide +kernel
theorem dX1_keepFair_101 : decode cX1_keepFair 101 = .ok (.aload_n 0, 1) := by decide +kernel
theorem dX1_keepFair_102 : decode cX1_keepFair 102 = .ok (.getfield 55, 3) := by decide +kernel
theorem dX1_keepFair_105 : decode cX1_keepFair 105 = .ok (.iload_n 2, 1) := by decide +kernel
theorem dX1_keepFair_106 : decode cX1_keepFair 106 = .ok (.aaload, 1) := by decide +kernel
theorem dX1_keepFair_107 : decode cX1_keepFair 107 = .ok (.iload_n 1, 1) := by decide +kernel
theorem dX1_keepFair_108 : decode cX1_keepFair 108 = .ok (.iaload, 1) := by decide +kernel
theorem dX1_keepFair_109 : decode cX1_keepFair 109 = .ok (.putfield 9, 3) := by decide +kernel
theorem dX1_keepFair_112 : decode cX1_keepFair 112 = .ok (.aload_n 0, 1) := by decide +kernel
theorem dX1_keepFair_113 : decode cX1_keepFair 113 = .ok (.aload_n 0, 1) := by decide +kernel
theorem dX1_keepFair_114 : decode cX1_keepFair 114 = .ok (.getfield 47, 3) := by decide +kernel
theorem dX1_keepFair_117 : decode cX1_keepFair 117 = .ok (.iload_n 2, 1) := by decide +kernel
theorem dX1_keepFair_118 : decode cX1_keepFair 118 = .ok (.iaload, 1) := by decide +kernel
theorem dX1_keepFair_119 : decode cX1_keepFair 119 = .ok (.putfield 15, 3) := by decide +kernel
theorem dX1_keepFair_122 : decode cX1_keepFair 122 = .ok (.iinc 1 1, 3) := by decide +kernel
theorem dX1_keepFair_125 : decode cX1_keepFair 125 = .ok (.goto (-82), 3) := by decide +kernel
theorem dX1_keepFair_128 : decode cX1_keepFair 128 = .ok (.return_, 1) := by decide +kernel
set_option maxRecDepth 20000 in
theorem ggX1_seekQuiet_X4_begin : GoodIn wsX1_seekQuiet wsX4_begin := goodIn_r _ [8, 9, 10, 11, 12, 13, 14, 15, 16, 17, 7, 18, 19, 20, 21, 22, 23, 58, 59, 60] (by decide +kernel) (by decide +kernel)
set_option maxRecDepth 20000 in
theorem gX1_seekQuiet_X4_begin : GoodIn wsX1_seekQuiet (wsV RX1 93 RX4 yX4_begin wsX4_begin) := goodIn_app (goodIn_of _ (by decide +kernel)) ggX1_seekQuiet_X4_begin
set_option maxRecDepth 20000 in
theorem ggX1_seekQuiet_X1_firstEnvious : GoodIn wsX1_seekQuiet wsX1_firstEnvious := goodIn_r _ [28, 2, 1, 29, 30, 31, 44, 45, 46, 47, 48, 49, 50, 51, 52, 53, 54, 55, 56, 57, 58, 59, 60] (by decide +kernel) (by decide +kernel)
set_option maxRecDepth 20000 in
theorem gX1_seekQuiet_X1_firstEnvious : GoodIn wsX1_seekQuiet (wsV RX1 111 RX1 yX1_firstEnvious wsX1_firstEnvious) := goodIn_app (goodIn_of _ (by decide +kernel)) ggX1_seekQuiet_X1_firstEnvious
set_option maxRecDepth 20000 in
theorem ggX1_seekQuiet_X1_countQuiet : GoodIn wsX1_seekQuiet wsX1_countQuiet := goodIn_r _ [35, 36, 1, 29, 37, 38, 39, 44, 45, 46, 47, 48, 49, 50, 51, 52, 53, 54, 55, 56, 57, 58, 59, 60] (by decide +kernel) (by decide +kernel)
set_option maxRecDepth 20000 in
theorem gX1_seekQuiet_X1_countQuiet : GoodIn wsX1_seekQuiet (wsV RX1 114 RX1 yX1_countQuiet wsX1_countQuiet) := goodIn_app (goodIn_of _ (by decide +kernel)) ggX1_seekQuiet_X1_countQuiet
set_option maxRecDepth 20000 in
theorem ggX1_seekQuiet_X4_advance : GoodIn wsX1_seekQuiet wsX4_advance := goodIn_r _ [43, 13, 9, 10, 11, 12, 19, 14, 20, 21, 22, 7, 23, 15, 16, 17, 18, 58, 59, 60] (by decide +kernel) (by decide +kernel)
set_option maxRecDepth 20000 in
theorem gX1_seekQuiet_X4_advance : GoodIn wsX1_seekQuiet (wsV RX1 104 RX4 yX4_advance wsX4_advance) := goodIn_app (goodIn_of _ (by decide +kernel)) ggX1_seekQuiet_X4_advance
theorem dX1_seekQuiet_0 : decode cX1_seekQuiet 0 = .ok (.aload_n 0, 1) := by decide +kernel
theorem dX1_seekQuiet_1 : decode cX1_seekQuiet 1 = .ok (.getfield 40, 3) := by decide +kernel
theorem dX1_seekQuiet_4 : decode cX1_seekQuiet 4 = .ok (.aload_n 0, 1) := by decide +kernel
theorem dX1_seekQuiet_5 : decode cX1_seekQuiet 5 = .ok (.getfield 34, 3) := by decide +kernel
theorem dX1_seekQuiet_8 : decode cX1_seekQuiet 8 = .ok (.aload_n 0, 1) := by decide +kernel
theorem dX1_seekQuiet_9 : decode cX1_seekQuiet 9 = .ok (.getfield 34, 3) := by decide +kernel
theorem dX1_seekQuiet_12 : decode cX1_seekQuiet 12 = .ok (.invokevirtual 93, 3) := by decide +kernel
theorem dX1_seekQuiet_15 : decode cX1_seekQuiet 15 = .ok (.iconst 1, 1) := by decide +kernel
theorem dX1_seekQuiet_16 : decode cX1_seekQuiet 16 = .ok (.istore_n 1, 1) := by decide +kernel
theorem dX1_seekQuiet_17 : decode cX1_seekQuiet 17 = .ok (.iconst 0, 1) := by decide +kernel
theorem dX1_seekQuiet_18 : decode cX1_seekQuiet 18 = .ok (.istore_n 2, 1) := by decide +kernel
theorem dX1_seekQuiet_19 : decode cX1_seekQuiet 19 = .ok (.iload_n 1, 1) := by decide +kernel
theorem dX1_seekQuiet_20 : decode cX1_seekQuiet 20 = .ok (.ifCond .eq 41, 3) := by decide +kernel
theorem dX1_seekQuiet_23 : decode cX1_seekQuiet 23 = .ok (.iload_n 2, 1) := by decide +kernel
theorem dX1_seekQuiet_24 : decode cX1_seekQuiet 24 = .ok (.ldc 65, 2) := by decide +kernel
theorem dX1_seekQuiet_26 : decode cX1_seekQuiet 26 = .ok (.if_icmp .ge 35, 3) := by decide +kernel
theorem dX1_seekQuiet_29 : decode cX1_seekQuiet 29 = .ok (.aload_n 0, 1) := by decide +kernel
theorem dX1_seekQuiet_30 : decode cX1_seekQuiet 30 = .ok (.invokevirtual 111, 3) := by decide +kernel
theorem dX1_seekQuiet_33 : decode cX1_seekQuiet 33 = .ok (.istore_n 3, 1) := by decide +kernel
theorem dX1_seekQuiet_34 : decode cX1_seekQuiet 34 = .ok (.iload_n 3, 1) := by decide +kernel
theorem dX1_seekQuiet_35 : decode cX1_seekQuiet 35 = .ok (.aload_n 0, 1) := by decide +kernel
theorem dX1_seekQuiet_36 : decode cX1_seekQuiet 36 = .ok (.getfield 34, 3) := by decide +kernel
theorem dX1_seekQuiet_39 : decode cX1_seekQuiet 39 = .ok (.if_icmp .ne 7, 3) := by decide +kernel
theorem dX1_seekQuiet_42 : decode cX1_seekQuiet 42 = .ok (.aload_n 0, 1) := by decide +kernel
theorem dX1_seekQuiet_43 : decode cX1_seekQuiet 43 = .ok (.invokevirtual 114, 3) := by decide +kernel
theorem dX1_seekQuiet_46 : decode cX1_seekQuiet 46 = .ok (.aload_n 0, 1) := by decide +kernel
theorem dX1_seekQuiet_47 : decode cX1_seekQuiet 47 = .ok (.getfield 40, 3) := by decide +kernel
theorem dX1_seekQuiet_50 : decode cX1_seekQuiet 50 = .ok (.iload_n 3, 1) := by decide +kernel
theorem dX1_seekQuiet_51 : decode cX1_seekQuiet 51 = .ok (.invokevirtual 104, 3) := by decide +kernel
theorem dX1_seekQuiet_54 : decode cX1_seekQuiet 54 = .ok (.istore_n 1, 1) := by decide +kernel
theorem dX1_seekQuiet_55 : decode cX1_seekQuiet 55 = .ok (.iinc 2 1, 3) := by decide +kernel
theorem dX1_seekQuiet_58 : decode cX1_seekQuiet 58 = .ok (.goto (-39), 3) := by decide +kernel
theorem dX1_seekQuiet_61 : decode cX1_seekQuiet 61 = .ok (.return_, 1) := by decide +kernel
theorem dX1_firstEnvious_0 : decode cX1_firstEnvious 0 = .ok (.iconst 0, 1) := by decide +kernel
theorem dX1_firstEnvious_1 : decode cX1_firstEnvious 1 = .ok (.istore_n 1, 1) := by decide +kernel
theorem dX1_firstEnvious_2 : decode cX1_firstEnvious 2 = .ok (.iload_n 1, 1) := by decide +kernel
theorem dX1_firstEnvious_3 : decode cX1_firstEnvious 3 = .ok (.aload_n 0, 1) := by decide +kernel
theorem dX1_firstEnvious_4 : decode cX1_firstEnvious 4 = .ok (.getfield 34, 3) := by decide +kernel
theorem dX1_firstEnvious_7 : decode cX1_firstEnvious 7 = .ok (.if_icmp .ge 38, 3) := by decide +kernel
theorem dX1_firstEnvious_10 : decode cX1_firstEnvious 10 = .ok (.aload_n 0, 1) := by decide +kernel
theorem dX1_firstEnvious_11 : decode cX1_firstEnvious 11 = .ok (.getfield 40, 3) := by decide +kernel
theorem dX1_firstEnvious_14 : decode cX1_firstEnvious 14 = .ok (.getfield 108, 3) := by decide +kernel
theorem dX1_firstEnvious_17 : decode cX1_firstEnvious 17 = .ok (.iload_n 1, 1) := by decide +kernel
theorem dX1_firstEnvious_18 : decode cX1_firstEnvious 18 = .ok (.iaload, 1) := by decide +kernel
theorem dX1_firstEnvious_19 : decode cX1_firstEnvious 19 = .ok (.istore_n 2, 1) := by decide +kernel
theorem dX1_firstEnvious_20 : decode cX1_firstEnvious 20 = .ok (.aload_n 0, 1) := by decide +kernel
theorem dX1_firstEnvious_21 : decode cX1_firstEnvious 21 = .ok (.getfield 55, 3) := by decide +kernel
theorem dX1_firstEnvious_24 : decode cX1_firstEnvious 24 = .ok (.iload_n 2, 1) := by decide +kernel
theorem dX1_firstEnvious_25 : decode cX1_firstEnvious 25 = .ok (.aaload, 1) := by decide +kernel
theorem dX1_firstEnvious_26 : decode cX1_firstEnvious 26 = .ok (.iload_n 1, 1) := by decide +kernel
theorem dX1_firstEnvious_27 : decode cX1_firstEnvious 27 = .ok (.iaload, 1) := by decide +kernel
theorem dX1_firstEnvious_28 : decode cX1_firstEnvious 28 = .ok (.aload_n 0, 1) := by decide +kernel
theorem dX1_firstEnvious_29 : decode cX1_firstEnvious 29 = .ok (.getfield 58, 3) := by decide +kernel
theorem dX1_firstEnvious_32 : decode cX1_firstEnvious 32 = .ok (.iload_n 2, 1) := by decide +kernel
theorem dX1_firstEnvious_33 : decode cX1_firstEnvious 33 = .ok (.iaload, 1) := by decide +kernel
theorem dX1_firstEnvious_34 : decode cX1_firstEnvious 34 = .ok (.if_icmp .ge 5, 3) := by decide +kernel
theorem dX1_firstEnvious_37 : decode cX1_firstEnvious 37 = .ok (.iload_n 1, 1) := by decide +kernel
theorem dX1_firstEnvious_38 : decode cX1_firstEnvious 38 = .ok (.ireturn, 1) := by decide +kernel

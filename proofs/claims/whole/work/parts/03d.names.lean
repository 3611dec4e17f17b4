theorem dX5_setRandom_12 : decode cX5_setRandom 12 = .ok (.ifCond .ne 9, 3) := by decide +kernel
theorem dX5_setRandom_15 : decode cX5_setRandom 15 = .ok (.aload_n 0, 1) := by decide +kernel
theorem dX5_setRandom_16 : decode cX5_setRandom 16 = .ok (.iconst 1, 1) := by decide +kernel
theorem dX5_setRandom_17 : decode cX5_setRandom 17 = .ok (.invokevirtual 48, 3) := by decide +kernel
theorem dX5_setRandom_20 : decode cX5_setRandom 20 = .ok (.ireturn, 1) := by decide +kernel
theorem dX5_setRandom_21 : decode cX5_setRandom 21 = .ok (.aload_n 0, 1) := by decide +kernel
theorem dX5_setRandom_22 : decode cX5_setRandom 22 = .ok (.invokevirtual 51, 3) := by decide +kernel
theorem dX5_setRandom_25 : decode cX5_setRandom 25 = .ok (.aload_n 0, 1) := by decide +kernel
theorem dX5_setRandom_26 : decode cX5_setRandom 26 = .ok (.getfield 7, 3) := by decide +kernel
theorem dX5_setRandom_29 : decode cX5_setRandom 29 = .ok (.iconst 0, 1) := by decide +kernel
theorem dX5_setRandom_30 : decode cX5_setRandom 30 = .ok (.iload_n 1, 1) := by decide +kernel
theorem dX5_setRandom_31 : decode cX5_setRandom 31 = .ok (.iastore, 1) := by decide +kernel
theorem dX5_setRandom_32 : decode cX5_setRandom 32 = .ok (.iconst 1, 1) := by decide +kernel
theorem dX5_setRandom_33 : decode cX5_setRandom 33 = .ok (.ireturn, 1) := by decide +kernel
set_option maxRecDepth 20000 in
theorem ggX5_setUp_X5_isServer : GoodIn wsX5_setUp wsX5_isServer := goodIn_r _ [7, 2, 8, 9, 6, 10, 49, 50, 51, 52, 53, 54] (by decide +kernel) (by decide +kernel)
set_option maxRecDepth 20000 in
theorem gX5_setUp_X5_isServer : GoodIn wsX5_setUp (wsV RX5 63 RX5 yX5_isServer wsX5_isServer) := goodIn_app (goodIn_of _ (by decide +kernel)) ggX5_setUp_X5_isServer
set_option maxRecDepth 20000 in
theorem ggX5_setUp_X5_save : GoodIn wsX5_setUp wsX5_save := goodIn_r _ [14, 15, 16, 2, 49, 50, 51, 52, 53, 54] (by decide +kernel) (by decide +kernel)
set_option maxRecDepth 20000 in
theorem gX5_setUp_X5_save : GoodIn wsX5_setUp (wsV RX5 51 RX5 yX5_save wsX5_save) := goodIn_app (goodIn_of _ (by decide +kernel)) ggX5_setUp_X5_save
set_option maxRecDepth 20000 in
theorem ggX5_setUp_X5_isUp : GoodIn wsX5_setUp wsX5_isUp := goodIn_r _ [20, 2, 49, 50, 51, 52, 53, 54] (by decide +kernel) (by decide +kernel)
set_option maxRecDepth 20000 in
theorem gX5_setUp_X5_isUp : GoodIn wsX5_setUp (wsV RX5 66 RX5 yX5_isUp wsX5_isUp) := goodIn_app (goodIn_of _ (by decide +kernel)) ggX5_setUp_X5_isUp
set_option maxRecDepth 20000 in
theorem ggX5_setUp_X5_lengthOf : GoodIn wsX5_setUp wsX5_lengthOf := goodIn_r _ [24, 2, 25, 26, 27, 6, 28, 49, 50, 51, 52, 53, 54] (by decide +kernel) (by decide +kernel)
set_option maxRecDepth 20000 in
theorem gX5_setUp_X5_lengthOf : GoodIn wsX5_setUp (wsV RX5 69 RX5 yX5_lengthOf wsX5_lengthOf) := goodIn_app (goodIn_of _ (by decide +kernel)) ggX5_setUp_X5_lengthOf
set_option maxRecDepth 20000 in
theorem ggX5_setUp_X5_register : GoodIn wsX5_setUp wsX5_register := goodIn_r _ [32, 2, 33, 34, 35, 6, 36, 37, 38, 39, 40, 49, 50, 51, 52, 53, 54] (by decide +kernel) (by decide +kernel)
set_option maxRecDepth 20000 in
theorem gX5_setUp_X5_register : GoodIn wsX5_setUp (wsV RX5 54 RX5 yX5_register wsX5_register) := goodIn_app (goodIn_of _ (by decide +kernel)) ggX5_setUp_X5_register
set_option maxRecDepth 20000 in
theorem ggX5_setUp_X5_leave : GoodIn wsX5_setUp wsX5_leave := goodIn_r _ [44, 2, 45, 46, 47, 6, 48, 49, 50, 51, 52, 53, 54] (by decide +kernel) (by decide +kernel)
set_option maxRecDepth 20000 in
theorem gX5_setUp_X5_leave : GoodIn wsX5_setUp (wsV RX5 72 RX5 yX5_leave wsX5_leave) := goodIn_app (goodIn_of _ (by decide +kernel)) ggX5_setUp_X5_leave
theorem dX5_setUp_0 : decode cX5_setUp 0 = .ok (.aload_n 0, 1) := by decide +kernel
theorem dX5_setUp_1 : decode cX5_setUp 1 = .ok (.iconst 0, 1) := by decide +kernel
theorem dX5_setUp_2 : decode cX5_setUp 2 = .ok (.putfield 19, 3) := by decide +kernel
theorem dX5_setUp_5 : decode cX5_setUp 5 = .ok (.aload_n 0, 1) := by decide +kernel
theorem dX5_setUp_6 : decode cX5_setUp 6 = .ok (.iload_n 1, 1) := by decide +kernel
theorem dX5_setUp_7 : decode cX5_setUp 7 = .ok (.invokevirtual 63, 3) := by decide +kernel
theorem dX5_setUp_10 : decode cX5_setUp 10 = .ok (.ifCond .ne 10, 3) := by decide +kernel
theorem dX5_setUp_13 : decode cX5_setUp 13 = .ok (.aload_n 0, 1) := by decide +kernel
theorem dX5_setUp_14 : decode cX5_setUp 14 = .ok (.iconst 1, 1) := by decide +kernel
theorem dX5_setUp_15 : decode cX5_setUp 15 = .ok (.putfield 19, 3) := by decide +kernel
theorem dX5_setUp_18 : decode cX5_setUp 18 = .ok (.iconst 0, 1) := by decide +kernel
theorem dX5_setUp_19 : decode cX5_setUp 19 = .ok (.ireturn, 1) := by decide +kernel
theorem dX5_setUp_20 : decode cX5_setUp 20 = .ok (.aload_n 0, 1) := by decide +kernel
theorem dX5_setUp_21 : decode cX5_setUp 21 = .ok (.invokevirtual 51, 3) := by decide +kernel
theorem dX5_setUp_24 : decode cX5_setUp 24 = .ok (.aload_n 0, 1) := by decide +kernel
theorem dX5_setUp_25 : decode cX5_setUp 25 = .ok (.iload_n 1, 1) := by decide +kernel
theorem dX5_setUp_26 : decode cX5_setUp 26 = .ok (.invokevirtual 66, 3) := by decide +kernel
theorem dX5_setUp_29 : decode cX5_setUp 29 = .ok (.istore_n 3, 1) := by decide +kernel
theorem dX5_setUp_30 : decode cX5_setUp 30 = .ok (.aload_n 0, 1) := by decide +kernel
theorem dX5_setUp_31 : decode cX5_setUp 31 = .ok (.getfield 7, 3) := by decide +kernel
theorem dX5_setUp_34 : decode cX5_setUp 34 = .ok (.bipush 9, 2) := by decide +kernel
theorem dX5_setUp_36 : decode cX5_setUp 36 = .ok (.iload_n 1, 1) := by decide +kernel
theorem dX5_setUp_37 : decode cX5_setUp 37 = .ok (.iadd, 1) := by decide +kernel
theorem dX5_setUp_38 : decode cX5_setUp 38 = .ok (.iload_n 2, 1) := by decide +kernel
theorem dX5_setUp_39 : decode cX5_setUp 39 = .ok (.ifCond .eq 7, 3) := by decide +kernel
theorem dX5_setUp_42 : decode cX5_setUp 42 = .ok (.iconst 1, 1) := by decide +kernel
theorem dX5_setUp_43 : decode cX5_setUp 43 = .ok (.goto 4, 3) := by decide +kernel
theorem dX5_setUp_46 : decode cX5_setUp 46 = .ok (.iconst 0, 1) := by decide +kernel
theorem dX5_setUp_47 : decode cX5_setUp 47 = .ok (.iastore, 1) := by decide +kernel
theorem dX5_setUp_48 : decode cX5_setUp 48 = .ok (.iload_n 2, 1) := by decide +kernel
theorem dX5_setUp_49 : decode cX5_setUp 49 = .ok (.ifCond .eq 20, 3) := by decide +kernel
theorem dX5_setUp_52 : decode cX5_setUp 52 = .ok (.iload_n 3, 1) := by decide +kernel
theorem dX5_setUp_53 : decode cX5_setUp 53 = .ok (.ifCond .ne 16, 3) := by decide +kernel
theorem dX5_setUp_56 : decode cX5_setUp 56 = .ok (.aload_n 0, 1) := by decide +kernel
theorem dX5_setUp_57 : decode cX5_setUp 57 = .ok (.iload_n 1, 1) := by decide +kernel
theorem dX5_setUp_58 : decode cX5_setUp 58 = .ok (.invokevirtual 69, 3) := by decide +kernel
theorem dX5_setUp_61 : decode cX5_setUp 61 = .ok (.ifCond .ne 8, 3) := by decide +kernel
theorem dX5_setUp_64 : decode cX5_setUp 64 = .ok (.aload_n 0, 1) := by decide +kernel
theorem dX5_setUp_65 : decode cX5_setUp 65 = .ok (.iload_n 1, 1) := by decide +kernel
theorem dX5_setUp_66 : decode cX5_setUp 66 = .ok (.invokevirtual 54, 3) := by decide +kernel
theorem dX5_setUp_69 : decode cX5_setUp 69 = .ok (.iload_n 2, 1) := by decide +kernel
theorem dX5_setUp_70 : decode cX5_setUp 70 = .ok (.ifCond .ne 8, 3) := by decide +kernel
theorem dX5_setUp_73 : decode cX5_setUp 73 = .ok (.aload_n 0, 1) := by decide +kernel
theorem dX5_setUp_74 : decode cX5_setUp 74 = .ok (.iload_n 1, 1) := by decide +kernel
theorem dX5_setUp_75 : decode cX5_setUp 75 = .ok (.invokevirtual 72, 3) := by decide +kernel
theorem dX5_setUp_78 : decode cX5_setUp 78 = .ok (.iload_n 3, 1) := by decide +kernel
theorem dX5_setUp_79 : decode cX5_setUp 79 = .ok (.ireturn, 1) := by decide +kernel
set_option maxRecDepth 20000 in
theorem ggX5_findCandidates_X5_isUp : GoodIn wsX5_findCandidates wsX5_isUp := goodIn_r _ [7, 1, 8, 9, 10, 11, 12, 13] (by decide +kernel) (by decide +kernel)
set_option maxRecDepth 20000 in
theorem gX5_findCandidates_X5_isUp : GoodIn wsX5_findCandidates (wsV RX5 66 RX5 yX5_isUp wsX5_isUp) := goodIn_app (goodIn_of _ (by decide +kernel)) ggX5_findCandidates_X5_isUp
theorem dX5_findCandidates_0 : decode cX5_findCandidates 0 = .ok (.iconst 0, 1) := by decide +kernel
theorem dX5_findCandidates_1 : decode cX5_findCandidates 1 = .ok (.istore_n 1, 1) := by decide +kernel
theorem dX5_findCandidates_2 : decode cX5_findCandidates 2 = .ok (.iconst 0, 1) := by decide +kernel
theorem dX5_findCandidates_3 : decode cX5_findCandidates 3 = .ok (.istore_n 2, 1) := by decide +kernel
theorem dX5_findCandidates_4 : decode cX5_findCandidates 4 = .ok (.iload_n 2, 1) := by decide +kernel
theorem dX5_findCandidates_5 : decode cX5_findCandidates 5 = .ok (.aload_n 0, 1) := by decide +kernel
theorem dX5_findCandidates_6 : decode cX5_findCandidates 6 = .ok (.getfield 7, 3) := by decide +kernel
theorem dX5_findCandidates_9 : decode cX5_findCandidates 9 = .ok (.iconst 4, 1) := by decide +kernel
theorem dX5_findCandidates_10 : decode cX5_findCandidates 10 = .ok (.iaload, 1) := by decide +kernel
theorem dX5_findCandidates_11 : decode cX5_findCandidates 11 = .ok (.if_icmp .ge 27, 3) := by decide +kernel
theorem dX5_findCandidates_14 : decode cX5_findCandidates 14 = .ok (.aload_n 0, 1) := by decide +kernel
theorem dX5_findCandidates_15 : decode cX5_findCandidates 15 = .ok (.iload_n 2, 1) := by decide +kernel
theorem dX5_findCandidates_16 : decode cX5_findCandidates 16 = .ok (.invokevirtual 66, 3) := by decide +kernel
theorem dX5_findCandidates_19 : decode cX5_findCandidates 19 = .ok (.ifCond .eq 13, 3) := by decide +kernel
theorem dX5_findCandidates_22 : decode cX5_findCandidates 22 = .ok (.aload_n 0, 1) := by decide +kernel
theorem dX5_findCandidates_23 : decode cX5_findCandidates 23 = .ok (.getfield 16, 3) := by decide +kernel
theorem dX5_findCandidates_26 : decode cX5_findCandidates 26 = .ok (.iload_n 1, 1) := by decide +kernel
theorem dX5_findCandidates_27 : decode cX5_findCandidates 27 = .ok (.iload_n 2, 1) := by decide +kernel
theorem dX5_findCandidates_28 : decode cX5_findCandidates 28 = .ok (.iastore, 1) := by decide +kernel
theorem dX5_findCandidates_29 : decode cX5_findCandidates 29 = .ok (.iinc 1 1, 3) := by decide +kernel
theorem dX5_findCandidates_32 : decode cX5_findCandidates 32 = .ok (.iinc 2 1, 3) := by decide +kernel
theorem dX5_findCandidates_35 : decode cX5_findCandidates 35 = .ok (.goto (-31), 3) := by decide +kernel
theorem dX5_findCandidates_38 : decode cX5_findCandidates 38 = .ok (.iload_n 1, 1) := by decide +kernel
theorem dX5_findCandidates_39 : decode cX5_findCandidates 39 = .ok (.ireturn, 1) := by decide +kernel
theorem dX5_nextInTurn_0 : decode cX5_nextInTurn 0 = .ok (.iconst 0, 1) := by decide +kernel
theorem dX5_nextInTurn_1 : decode cX5_nextInTurn 1 = .ok (.istore_n 3, 1) := by decide +kernel
theorem dX5_nextInTurn_2 : decode cX5_nextInTurn 2 = .ok (.iload_n 3, 1) := by decide +kernel
theorem dX5_nextInTurn_3 : decode cX5_nextInTurn 3 = .ok (.iload_n 2, 1) := by decide +kernel
theorem dX5_nextInTurn_4 : decode cX5_nextInTurn 4 = .ok (.if_icmp .ge 34, 3) := by decide +kernel
theorem dX5_nextInTurn_7 : decode cX5_nextInTurn 7 = .ok (.aload_n 0, 1) := by decide +kernel
theorem dX5_nextInTurn_8 : decode cX5_nextInTurn 8 = .ok (.getfield 16, 3) := by decide +kernel
theorem dX5_nextInTurn_11 : decode cX5_nextInTurn 11 = .ok (.iload_n 3, 1) := by decide +kernel
theorem dX5_nextInTurn_12 : decode cX5_nextInTurn 12 = .ok (.iaload, 1) := by decide +kernel
theorem dX5_nextInTurn_13 : decode cX5_nextInTurn 13 = .ok (.aload_n 0, 1) := by decide +kernel
theorem dX5_nextInTurn_14 : decode cX5_nextInTurn 14 = .ok (.getfield 7, 3) := by decide +kernel
theorem dX5_nextInTurn_17 : decode cX5_nextInTurn 17 = .ok (.bipush 21, 2) := by decide +kernel
theorem dX5_nextInTurn_19 : decode cX5_nextInTurn 19 = .ok (.iload_n 1, 1) := by decide +kernel
theorem dX5_nextInTurn_20 : decode cX5_nextInTurn 20 = .ok (.iadd, 1) := by decide +kernel
theorem dX5_nextInTurn_21 : decode cX5_nextInTurn 21 = .ok (.iaload, 1) := by decide +kernel
theorem dX5_nextInTurn_22 : decode cX5_nextInTurn 22 = .ok (.if_icmp .lt 10, 3) := by decide +kernel
theorem dX5_nextInTurn_25 : decode cX5_nextInTurn 25 = .ok (.aload_n 0, 1) := by decide +kernel
theorem dX5_nextInTurn_26 : decode cX5_nextInTurn 26 = .ok (.getfield 16, 3) := by decide +kernel
theorem dX5_nextInTurn_29 : decode cX5_nextInTurn 29 = .ok (.iload_n 3, 1) := by decide +kernel
theorem dX5_nextInTurn_30 : decode cX5_nextInTurn 30 = .ok (.iaload, 1) := by decide +kernel
theorem dX5_nextInTurn_31 : decode cX5_nextInTurn 31 = .ok (.ireturn, 1) := by decide +kernel
theorem dX5_nextInTurn_32 : decode cX5_nextInTurn 32 = .ok (.iinc 3 1, 3) := by decide +kernel
theorem dX5_nextInTurn_35 : decode cX5_nextInTurn 35 = .ok (.goto (-33), 3) := by decide +kernel
theorem dX5_nextInTurn_38 : decode cX5_nextInTurn 38 = .ok (.aload_n 0, 1) := by decide +kernel
theorem dX5_nextInTurn_39 : decode cX5_nextInTurn 39 = .ok (.getfield 16, 3) := by decide +kernel
theorem dX5_nextInTurn_42 : decode cX5_nextInTurn 42 = .ok (.iconst 0, 1) := by decide +kernel
theorem dX5_nextInTurn_43 : decode cX5_nextInTurn 43 = .ok (.iaload, 1) := by decide +kernel
theorem dX5_nextInTurn_44 : decode cX5_nextInTurn 44 = .ok (.ireturn, 1) := by decide +kernel
theorem dX5_leastKnown_0 : decode cX5_leastKnown 0 = .ok (.aload_n 0, 1) := by decide +kernel
theorem dX5_leastKnown_1 : decode cX5_leastKnown 1 = .ok (.getfield 16, 3) := by decide +kernel
theorem dX5_leastKnown_4 : decode cX5_leastKnown 4 = .ok (.iconst 0, 1) := by decide +kernel
theorem dX5_leastKnown_5 : decode cX5_leastKnown 5 = .ok (.iaload, 1) := by decide +kernel
theorem dX5_leastKnown_6 : decode cX5_leastKnown 6 = .ok (.istore_n 3, 1) := by decide +kernel
theorem dX5_leastKnown_7 : decode cX5_leastKnown 7 = .ok (.iconst 1, 1) := by decide +kernel
theorem dX5_leastKnown_8 : decode cX5_leastKnown 8 = .ok (.istore 4, 2) := by decide +kernel
theorem dX5_leastKnown_10 : decode cX5_leastKnown 10 = .ok (.iload 4, 2) := by decide +kernel
theorem dX5_leastKnown_12 : decode cX5_leastKnown 12 = .ok (.iload_n 2, 1) := by decide +kernel
theorem dX5_leastKnown_13 : decode cX5_leastKnown 13 = .ok (.if_icmp .ge 62, 3) := by decide +kernel
theorem dX5_leastKnown_16 : decode cX5_leastKnown 16 = .ok (.aload_n 0, 1) := by decide +kernel
theorem dX5_leastKnown_17 : decode cX5_leastKnown 17 = .ok (.getfield 7, 3) := by decide +kernel
theorem dX5_leastKnown_20 : decode cX5_leastKnown 20 = .ok (.bipush 25, 2) := by decide +kernel
theorem dX5_leastKnown_22 : decode cX5_leastKnown 22 = .ok (.bipush 8, 2) := by decide +kernel
theorem dX5_leastKnown_24 : decode cX5_leastKnown 24 = .ok (.iload_n 1, 1) := by decide +kernel
theorem dX5_leastKnown_25 : decode cX5_leastKnown 25 = .ok (.imul, 1) := by decide +kernel
theorem dX5_leastKnown_26 : decode cX5_leastKnown 26 = .ok (.iadd, 1) := by decide +kernel
theorem dX5_leastKnown_27 : decode cX5_leastKnown 27 = .ok (.aload_n 0, 1) := by decide +kernel
theorem dX5_leastKnown_28 : decode cX5_leastKnown 28 = .ok (.getfield 16, 3) := by decide +kernel
theorem dX5_leastKnown_31 : decode cX5_leastKnown 31 = .ok (.iload 4, 2) := by decide +kernel
theorem dX5_leastKnown_33 : decode cX5_leastKnown 33 = .ok (.iaload, 1) := by decide +kernel
theorem dX5_leastKnown_34 : decode cX5_leastKnown 34 = .ok (.iadd, 1) := by decide +kernel
theorem dX5_leastKnown_35 : decode cX5_leastKnown 35 = .ok (.iaload, 1) := by decide +kernel
theorem dX5_leastKnown_36 : decode cX5_leastKnown 36 = .ok (.istore 5, 2) := by decide +kernel
theorem dX5_leastKnown_38 : decode cX5_leastKnown 38 = .ok (.iload 5, 2) := by decide +kernel
theorem dX5_leastKnown_40 : decode cX5_leastKnown 40 = .ok (.aload_n 0, 1) := by decide +kernel
theorem dX5_leastKnown_41 : decode cX5_leastKnown 41 = .ok (.getfield 7, 3) := by decide +kernel
theorem dX5_leastKnown_44 : decode cX5_leastKnown 44 = .ok (.bipush 25, 2) := by decide +kernel
theorem dX5_leastKnown_46 : decode cX5_leastKnown 46 = .ok (.bipush 8, 2) := by decide +kernel
theorem dX5_leastKnown_48 : decode cX5_leastKnown 48 = .ok (.iload_n 1, 1) := by decide +kernel
theorem dX5_leastKnown_49 : decode cX5_leastKnown 49 = .ok (.imul, 1) := by decide +kernel
theorem dX5_leastKnown_50 : decode cX5_leastKnown 50 = .ok (.iadd, 1) := by decide +kernel
theorem dX5_leastKnown_51 : decode cX5_leastKnown 51 = .ok (.iload_n 3, 1) := by decide +kernel
theorem dX5_leastKnown_52 : decode cX5_leastKnown 52 = .ok (.iadd, 1) := by decide +kernel
theorem dX5_leastKnown_53 : decode cX5_leastKnown 53 = .ok (.iaload, 1) := by decide +kernel
theorem dX5_leastKnown_54 : decode cX5_leastKnown 54 = .ok (.if_icmp .ge 13, 3) := by decide +kernel
theorem dX5_leastKnown_57 : decode cX5_leastKnown 57 = .ok (.aload_n 0, 1) := by decide +kernel
theorem dX5_leastKnown_58 : decode cX5_leastKnown 58 = .ok (.getfield 16, 3) := by decide +kernel
theorem dX5_leastKnown_61 : decode cX5_leastKnown 61 = .ok (.iload 4, 2) := by decide +kernel
theorem dX5_leastKnown_63 : decode cX5_leastKnown 63 = .ok (.iaload, 1) := by decide +kernel
theorem dX5_leastKnown_64 : decode cX5_leastKnown 64 = .ok (.goto 4, 3) := by decide +kernel
theorem dX5_leastKnown_67 : decode cX5_leastKnown 67 = .ok (.iload_n 3, 1) := by decide +kernel
theorem dX5_leastKnown_68 : decode cX5_leastKnown 68 = .ok (.istore_n 3, 1) := by decide +kernel
theorem dX5_leastKnown_69 : decode cX5_leastKnown 69 = .ok (.iinc 4 1, 3) := by decide +kernel
theorem dX5_leastKnown_72 : decode cX5_leastKnown 72 = .ok (.goto (-62), 3) := by decide +kernel
theorem dX5_leastKnown_75 : decode cX5_leastKnown 75 = .ok (.iload_n 3, 1) := by decide +kernel
theorem dX5_leastKnown_76 : decode cX5_leastKnown 76 = .ok (.ireturn, 1) := by decide +kernel
set_option maxRecDepth 20000 in
theorem ggX5_twoChoices_X5_draw : GoodIn wsX5_twoChoices wsX5_draw := goodIn_r _ [6, 7, 8, 9, 10, 11, 20, 21, 22, 23, 24, 25] (by decide +kernel) (by decide +kernel)
set_option maxRecDepth 20000 in
theorem gX5_twoChoices_X5_draw : GoodIn wsX5_twoChoices (wsV RX5 41 RX5 yX5_draw wsX5_draw) := goodIn_app (goodIn_of _ (by decide +kernel)) ggX5_twoChoices_X5_draw
set_option maxRecDepth 20000 in
theorem ggX5_twoChoices_X5_lengthOf : GoodIn wsX5_twoChoices wsX5_lengthOf := goodIn_r _ [15, 7, 16, 17, 18, 5, 19, 20, 21, 22, 23, 24, 25] (by decide +kernel) (by decide +kernel)
set_option maxRecDepth 20000 in
theorem gX5_twoChoices_X5_lengthOf : GoodIn wsX5_twoChoices (wsV RX5 69 RX5 yX5_lengthOf wsX5_lengthOf) := goodIn_app (goodIn_of _ (by decide +kernel)) ggX5_twoChoices_X5_lengthOf
theorem dX5_twoChoices_0 : decode cX5_twoChoices 0 = .ok (.aload_n 0, 1) := by decide +kernel
theorem dX5_twoChoices_1 : decode cX5_twoChoices 1 = .ok (.getfield 16, 3) := by decide +kernel
theorem dX5_twoChoices_4 : decode cX5_twoChoices 4 = .ok (.aload_n 0, 1) := by decide +kernel
theorem dX5_twoChoices_5 : decode cX5_twoChoices 5 = .ok (.iload_n 1, 1) := by decide +kernel
theorem dX5_twoChoices_6 : decode cX5_twoChoices 6 = .ok (.invokevirtual 41, 3) := by decide +kernel
theorem dX5_twoChoices_9 : decode cX5_twoChoices 9 = .ok (.iaload, 1) := by decide +kernel
theorem dX5_twoChoices_10 : decode cX5_twoChoices 10 = .ok (.istore_n 2, 1) := by decide +kernel
theorem dX5_twoChoices_11 : decode cX5_twoChoices 11 = .ok (.aload_n 0, 1) := by decide +kernel
theorem dX5_twoChoices_12 : decode cX5_twoChoices 12 = .ok (.getfield 16, 3) := by decide +kernel
theorem dX5_twoChoices_15 : decode cX5_twoChoices 15 = .ok (.aload_n 0, 1) := by decide +kernel
theorem dX5_twoChoices_16 : decode cX5_twoChoices 16 = .ok (.iload_n 1, 1) := by decide +kernel
theorem dX5_twoChoices_17 : decode cX5_twoChoices 17 = .ok (.invokevirtual 41, 3) := by decide +kernel
theorem dX5_twoChoices_20 : decode cX5_twoChoices 20 = .ok (.iaload, 1) := by decide +kernel
theorem dX5_twoChoices_21 : decode cX5_twoChoices 21 = .ok (.istore_n 3, 1) := by decide +kernel
theorem dX5_twoChoices_22 : decode cX5_twoChoices 22 = .ok (.aload_n 0, 1) := by decide +kernel
theorem dX5_twoChoices_23 : decode cX5_twoChoices 23 = .ok (.iload_n 3, 1) := by decide +kernel
theorem dX5_twoChoices_24 : decode cX5_twoChoices 24 = .ok (.invokevirtual 69, 3) := by decide +kernel
theorem dX5_twoChoices_27 : decode cX5_twoChoices 27 = .ok (.aload_n 0, 1) := by decide +kernel
theorem dX5_twoChoices_28 : decode cX5_twoChoices 28 = .ok (.iload_n 2, 1) := by decide +kernel
theorem dX5_twoChoices_29 : decode cX5_twoChoices 29 = .ok (.invokevirtual 69, 3) := by decide +kernel
theorem dX5_twoChoices_32 : decode cX5_twoChoices 32 = .ok (.if_icmp .ge 7, 3) := by decide +kernel
theorem dX5_twoChoices_35 : decode cX5_twoChoices 35 = .ok (.iload_n 3, 1) := by decide +kernel
theorem dX5_twoChoices_36 : decode cX5_twoChoices 36 = .ok (.goto 4, 3) := by decide +kernel
theorem dX5_twoChoices_39 : decode cX5_twoChoices 39 = .ok (.iload_n 2, 1) := by decide +kernel
theorem dX5_twoChoices_40 : decode cX5_twoChoices 40 = .ok (.ireturn, 1) := by decide +kernel
set_option maxRecDepth 20000 in
theorem ggX5_taken_X5_nextInTurn : GoodIn wsX5_taken wsX5_nextInTurn := goodIn_r _ [7, 2, 1, 32, 33, 34, 35, 36, 37] (by decide +kernel) (by decide +kernel)
set_option maxRecDepth 20000 in
theorem gX5_taken_X5_nextInTurn : GoodIn wsX5_taken (wsV RX5 75 RX5 yX5_nextInTurn wsX5_nextInTurn) := goodIn_app (goodIn_of _ (by decide +kernel)) ggX5_taken_X5_nextInTurn
set_option maxRecDepth 20000 in
theorem ggX5_taken_X5_twoChoices : GoodIn wsX5_taken wsX5_twoChoices := goodIn_r _ [11, 2, 12, 13, 14, 6, 15, 1, 16, 17, 18, 19, 20, 21, 22, 23, 24, 25, 26, 27, 32, 33, 34, 35, 36, 37] (by decide +kernel) (by decide +kernel)
set_option maxRecDepth 20000 in
theorem gX5_taken_X5_twoChoices : GoodIn wsX5_taken (wsV RX5 79 RX5 yX5_twoChoices wsX5_twoChoices) := goodIn_app (goodIn_of _ (by decide +kernel)) ggX5_taken_X5_twoChoices
set_option maxRecDepth 20000 in
theorem ggX5_taken_X5_leastKnown : GoodIn wsX5_taken wsX5_leastKnown := goodIn_r _ [31, 2, 1, 32, 33, 34, 35, 36, 37] (by decide +kernel) (by decide +kernel)
set_option maxRecDepth 20000 in
theorem gX5_taken_X5_leastKnown : GoodIn wsX5_taken (wsV RX5 82 RX5 yX5_leastKnown wsX5_leastKnown) := goodIn_app (goodIn_of _ (by decide +kernel)) ggX5_taken_X5_leastKnown
set_option maxRecDepth 20000 in
theorem ggX5_taken_X5_draw : GoodIn wsX5_taken wsX5_draw := goodIn_r _ [15, 1, 16, 17, 18, 19, 32, 33, 34, 35, 36, 37] (by decide +kernel) (by decide +kernel)
set_option maxRecDepth 20000 in
theorem gX5_taken_X5_draw : GoodIn wsX5_taken (wsV RX5 41 RX5 yX5_draw wsX5_draw) := goodIn_app (goodIn_of _ (by decide +kernel)) ggX5_taken_X5_draw
theorem dX5_taken_0 : decode cX5_taken 0 = .ok (.aload_n 0, 1) := by decide +kernel
theorem dX5_taken_1 : decode cX5_taken 1 = .ok (.getfield 7, 3) := by decide +kernel
theorem dX5_taken_4 : decode cX5_taken 4 = .ok (.bipush 17, 2) := by decide +kernel
theorem dX5_taken_6 : decode cX5_taken 6 = .ok (.iload_n 1, 1) := by decide +kernel
theorem dX5_taken_7 : decode cX5_taken 7 = .ok (.iadd, 1) := by decide +kernel
theorem dX5_taken_8 : decode cX5_taken 8 = .ok (.iaload, 1) := by decide +kernel
theorem dX5_taken_9 : decode cX5_taken 9 = .ok (.tableswitch 85 1 4 #[31, 52, 85, 58], 31) := by decide +kernel
theorem dX5_taken_40 : decode cX5_taken 40 = .ok (.aload_n 0, 1) := by decide +kernel
theorem dX5_taken_41 : decode cX5_taken 41 = .ok (.iload_n 1, 1) := by decide +kernel
theorem dX5_taken_42 : decode cX5_taken 42 = .ok (.iload_n 2, 1) := by decide +kernel
theorem dX5_taken_43 : decode cX5_taken 43 = .ok (.invokevirtual 75, 3) := by decide +kernel
theorem dX5_taken_46 : decode cX5_taken 46 = .ok (.istore_n 3, 1) := by decide +kernel
theorem dX5_taken_47 : decode cX5_taken 47 = .ok (.aload_n 0, 1) := by decide +kernel
theorem dX5_taken_48 : decode cX5_taken 48 = .ok (.getfield 7, 3) := by decide +kernel
theorem dX5_taken_51 : decode cX5_taken 51 = .ok (.bipush 21, 2) := by decide +kernel
theorem dX5_taken_53 : decode cX5_taken 53 = .ok (.iload_n 1, 1) := by decide +kernel
theorem dX5_taken_54 : decode cX5_taken 54 = .ok (.iadd, 1) := by decide +kernel
theorem dX5_taken_55 : decode cX5_taken 55 = .ok (.iload_n 3, 1) := by decide +kernel
theorem dX5_taken_56 : decode cX5_taken 56 = .ok (.iconst 1, 1) := by decide +kernel
theorem dX5_taken_57 : decode cX5_taken 57 = .ok (.iadd, 1) := by decide +kernel
theorem dX5_taken_58 : decode cX5_taken 58 = .ok (.iastore, 1) := by decide +kernel
theorem dX5_taken_59 : decode cX5_taken 59 = .ok (.iload_n 3, 1) := by decide +kernel
theorem dX5_taken_60 : decode cX5_taken 60 = .ok (.ireturn, 1) := by decide +kernel
theorem dX5_taken_61 : decode cX5_taken 61 = .ok (.aload_n 0, 1) := by decide +kernel
theorem dX5_taken_62 : decode cX5_taken 62 = .ok (.iload_n 2, 1) := by decide +kernel
theorem dX5_taken_63 : decode cX5_taken 63 = .ok (.invokevirtual 79, 3) := by decide +kernel
theorem dX5_taken_66 : decode cX5_taken 66 = .ok (.ireturn, 1) := by decide +kernel
theorem dX5_taken_67 : decode cX5_taken 67 = .ok (.aload_n 0, 1) := by decide +kernel
theorem dX5_taken_68 : decode cX5_taken 68 = .ok (.iload_n 1, 1) := by decide +kernel
theorem dX5_taken_69 : decode cX5_taken 69 = .ok (.iload_n 2, 1) := by decide +kernel
theorem dX5_taken_70 : decode cX5_taken 70 = .ok (.invokevirtual 82, 3) := by decide +kernel
theorem dX5_taken_73 : decode cX5_taken 73 = .ok (.istore_n 3, 1) := by decide +kernel
theorem dX5_taken_74 : decode cX5_taken 74 = .ok (.aload_n 0, 1) := by decide +kernel
theorem dX5_taken_75 : decode cX5_taken 75 = .ok (.getfield 7, 3) := by decide +kernel
theorem dX5_taken_78 : decode cX5_taken 78 = .ok (.bipush 25, 2) := by decide +kernel
theorem dX5_taken_80 : decode cX5_taken 80 = .ok (.bipush 8, 2) := by decide +kernel
theorem dX5_taken_82 : decode cX5_taken 82 = .ok (.iload_n 1, 1) := by decide +kernel
theorem dX5_taken_83 : decode cX5_taken 83 = .ok (.imul, 1) := by decide +kernel
theorem dX5_taken_84 : decode cX5_taken 84 = .ok (.iadd, 1) := by decide +kernel
theorem dX5_taken_85 : decode cX5_taken 85 = .ok (.iload_n 3, 1) := by decide +kernel
theorem dX5_taken_86 : decode cX5_taken 86 = .ok (.iadd, 1) := by decide +kernel
theorem dX5_taken_87 : decode cX5_taken 87 = .ok (.dup2, 1) := by decide +kernel
theorem dX5_taken_88 : decode cX5_taken 88 = .ok (.iaload, 1) := by decide +kernel
theorem dX5_taken_89 : decode cX5_taken 89 = .ok (.iconst 1, 1) := by decide +kernel
theorem dX5_taken_90 : decode cX5_taken 90 = .ok (.iadd, 1) := by decide +kernel
theorem dX5_taken_91 : decode cX5_taken 91 = .ok (.iastore, 1) := by decide +kernel
theorem dX5_taken_92 : decode cX5_taken 92 = .ok (.iload_n 3, 1) := by decide +kernel
theorem dX5_taken_93 : decode cX5_taken 93 = .ok (.ireturn, 1) := by decide +kernel
theorem dX5_taken_94 : decode cX5_taken 94 = .ok (.aload_n 0, 1) := by decide +kernel
theorem dX5_taken_95 : decode cX5_taken 95 = .ok (.getfield 7, 3) := by decide +kernel
theorem dX5_taken_98 : decode cX5_taken 98 = .ok (.bipush 17, 2) := by decide +kernel
theorem dX5_taken_100 : decode cX5_taken 100 = .ok (.iload_n 1, 1) := by decide +kernel
theorem dX5_taken_101 : decode cX5_taken 101 = .ok (.iadd, 1) := by decide +kernel
theorem dX5_taken_102 : decode cX5_taken 102 = .ok (.iaload, 1) := by decide +kernel
theorem dX5_taken_103 : decode cX5_taken 103 = .ok (.iconst 3, 1) := by decide +kernel
theorem dX5_taken_104 : decode cX5_taken 104 = .ok (.if_icmp .ne 19, 3) := by decide +kernel
theorem dX5_taken_107 : decode cX5_taken 107 = .ok (.aload_n 0, 1) := by decide +kernel
theorem dX5_taken_108 : decode cX5_taken 108 = .ok (.getfield 7, 3) := by decide +kernel
theorem dX5_taken_111 : decode cX5_taken 111 = .ok (.bipush 57, 2) := by decide +kernel
theorem dX5_taken_113 : decode cX5_taken 113 = .ok (.iload_n 1, 1) := by decide +kernel
theorem dX5_taken_114 : decode cX5_taken 114 = .ok (.iadd, 1) := by decide +kernel
theorem dX5_taken_115 : decode cX5_taken 115 = .ok (.iaload, 1) := by decide +kernel
theorem dX5_taken_116 : decode cX5_taken 116 = .ok (.ifCond .le 7, 3) := by decide +kernel
theorem dX5_taken_119 : decode cX5_taken 119 = .ok (.iconst 1, 1) := by decide +kernel
theorem dX5_taken_120 : decode cX5_taken 120 = .ok (.goto 4, 3) := by decide +kernel
theorem dX5_taken_123 : decode cX5_taken 123 = .ok (.iconst 0, 1) := by decide +kernel
theorem dX5_taken_124 : decode cX5_taken 124 = .ok (.istore 4, 2) := by decide +kernel
theorem dX5_taken_126 : decode cX5_taken 126 = .ok (.iload 4, 2) := by decide +kernel
theorem dX5_taken_128 : decode cX5_taken 128 = .ok (.ifCond .eq 18, 3) := by decide +kernel
theorem dX5_taken_131 : decode cX5_taken 131 = .ok (.aload_n 0, 1) := by decide +kernel
theorem dX5_taken_132 : decode cX5_taken 132 = .ok (.getfield 7, 3) := by decide +kernel
theorem dX5_taken_135 : decode cX5_taken 135 = .ok (.bipush 61, 2) := by decide +kernel
theorem dX5_taken_137 : decode cX5_taken 137 = .ok (.bipush 8, 2) := by decide +kernel
theorem dX5_taken_139 : decode cX5_taken 139 = .ok (.iload_n 1, 1) := by decide +kernel
theorem dX5_taken_140 : decode cX5_taken 140 = .ok (.imul, 1) := by decide +kernel
theorem dX5_taken_141 : decode cX5_taken 141 = .ok (.iadd, 1) := by decide +kernel
theorem dX5_taken_142 : decode cX5_taken 142 = .ok (.iaload, 1) := by decide +kernel
theorem dX5_taken_143 : decode cX5_taken 143 = .ok (.goto 13, 3) := by decide +kernel
theorem dX5_taken_146 : decode cX5_taken 146 = .ok (.aload_n 0, 1) := by decide +kernel
theorem dX5_taken_147 : decode cX5_taken 147 = .ok (.getfield 16, 3) := by decide +kernel
theorem dX5_taken_150 : decode cX5_taken 150 = .ok (.aload_n 0, 1) := by decide +kernel
theorem dX5_taken_151 : decode cX5_taken 151 = .ok (.iload_n 2, 1) := by decide +kernel
theorem dX5_taken_152 : decode cX5_taken 152 = .ok (.invokevirtual 41, 3) := by decide +kernel
theorem dX5_taken_155 : decode cX5_taken 155 = .ok (.iaload, 1) := by decide +kernel
theorem dX5_taken_156 : decode cX5_taken 156 = .ok (.ireturn, 1) := by decide +kernel
set_option maxRecDepth 20000 in
theorem ggX5_isSomeIdle_X5_lengthOf : GoodIn wsX5_isSomeIdle wsX5_lengthOf := goodIn_r _ [6, 7, 8, 9, 10, 5, 11, 12, 13, 14, 15, 16, 17] (by decide +kernel) (by decide +kernel)
set_option maxRecDepth 20000 in
theorem gX5_isSomeIdle_X5_lengthOf : GoodIn wsX5_isSomeIdle (wsV RX5 69 RX5 yX5_lengthOf wsX5_lengthOf) := goodIn_app (goodIn_of _ (by decide +kernel)) ggX5_isSomeIdle_X5_lengthOf
theorem dX5_isSomeIdle_0 : decode cX5_isSomeIdle 0 = .ok (.iconst 0, 1) := by decide +kernel
theorem dX5_isSomeIdle_1 : decode cX5_isSomeIdle 1 = .ok (.istore_n 2, 1) := by decide +kernel
theorem dX5_isSomeIdle_2 : decode cX5_isSomeIdle 2 = .ok (.iconst 0, 1) := by decide +kernel
theorem dX5_isSomeIdle_3 : decode cX5_isSomeIdle 3 = .ok (.istore_n 3, 1) := by decide +kernel
theorem dX5_isSomeIdle_4 : decode cX5_isSomeIdle 4 = .ok (.iload_n 3, 1) := by decide +kernel
theorem dX5_isSomeIdle_5 : decode cX5_isSomeIdle 5 = .ok (.iload_n 1, 1) := by decide +kernel
theorem dX5_isSomeIdle_6 : decode cX5_isSomeIdle 6 = .ok (.if_icmp .ge 32, 3) := by decide +kernel
theorem dX5_isSomeIdle_9 : decode cX5_isSomeIdle 9 = .ok (.iload_n 2, 1) := by decide +kernel
theorem dX5_isSomeIdle_10 : decode cX5_isSomeIdle 10 = .ok (.ifCond .ne 16, 3) := by decide +kernel
theorem dX5_isSomeIdle_13 : decode cX5_isSomeIdle 13 = .ok (.aload_n 0, 1) := by decide +kernel
theorem dX5_isSomeIdle_14 : decode cX5_isSomeIdle 14 = .ok (.aload_n 0, 1) := by decide +kernel
theorem dX5_isSomeIdle_15 : decode cX5_isSomeIdle 15 = .ok (.getfield 16, 3) := by decide +kernel
theorem dX5_isSomeIdle_18 : decode cX5_isSomeIdle 18 = .ok (.iload_n 3, 1) := by decide +kernel
theorem dX5_isSomeIdle_19 : decode cX5_isSomeIdle 19 = .ok (.iaload, 1) := by decide +kernel
theorem dX5_isSomeIdle_20 : decode cX5_isSomeIdle 20 = .ok (.invokevirtual 69, 3) := by decide +kernel
theorem dX5_isSomeIdle_23 : decode cX5_isSomeIdle 23 = .ok (.ifCond .ne 7, 3) := by decide +kernel
theorem dX5_isSomeIdle_26 : decode cX5_isSomeIdle 26 = .ok (.iconst 1, 1) := by decide +kernel
theorem dX5_isSomeIdle_27 : decode cX5_isSomeIdle 27 = .ok (.goto 4, 3) := by decide +kernel
theorem dX5_isSomeIdle_30 : decode cX5_isSomeIdle 30 = .ok (.iconst 0, 1) := by decide +kernel
theorem dX5_isSomeIdle_31 : decode cX5_isSomeIdle 31 = .ok (.istore_n 2, 1) := by decide +kernel
theorem dX5_isSomeIdle_32 : decode cX5_isSomeIdle 32 = .ok (.iinc 3 1, 3) := by decide +kernel
theorem dX5_isSomeIdle_35 : decode cX5_isSomeIdle 35 = .ok (.goto (-31), 3) := by decide +kernel
theorem dX5_isSomeIdle_38 : decode cX5_isSomeIdle 38 = .ok (.iload_n 2, 1) := by decide +kernel
theorem dX5_isSomeIdle_39 : decode cX5_isSomeIdle 39 = .ok (.ireturn, 1) := by decide +kernel
set_option maxRecDepth 20000 in
theorem ggX5_submit_X5_isDispatcher : GoodIn wsX5_submit wsX5_isDispatcher := goodIn_r _ [7, 2, 8, 9, 6, 10, 74, 75, 76, 77, 78, 79] (by decide +kernel) (by decide +kernel)
set_option maxRecDepth 20000 in
theorem gX5_submit_X5_isDispatcher : GoodIn wsX5_submit (wsV RX5 58 RX5 yX5_isDispatcher wsX5_isDispatcher) := goodIn_app (goodIn_of _ (by decide +kernel)) ggX5_submit_X5_isDispatcher
set_option maxRecDepth 20000 in
theorem ggX5_submit_X5_in : GoodIn wsX5_submit wsX5_in := goodIn_r _ [10] (by decide +kernel) (by decide +kernel)
set_option maxRecDepth 20000 in
theorem gX5_submit_X5_in : GoodIn wsX5_submit (va_wsS RX5 23 yX5_in wsX5_in) := goodIn_app (goodIn_of _ (by decide +kernel)) ggX5_submit_X5_in
set_option maxRecDepth 20000 in
theorem ggX5_submit_X5_refuse : GoodIn wsX5_submit wsX5_refuse := goodIn_r _ [14, 1, 74, 75, 76, 77, 78, 79] (by decide +kernel) (by decide +kernel)
set_option maxRecDepth 20000 in
theorem gX5_submit_X5_refuse : GoodIn wsX5_submit (wsV RX5 48 RX5 yX5_refuse wsX5_refuse) := goodIn_app (goodIn_of _ (by decide +kernel)) ggX5_submit_X5_refuse
set_option maxRecDepth 20000 in
theorem ggX5_submit_X5_findCandidates : GoodIn wsX5_submit wsX5_findCandidates := goodIn_r _ [18, 2, 19, 20, 21, 22, 6, 23, 74, 75, 76, 77, 78, 79] (by decide +kernel) (by decide +kernel)
set_option maxRecDepth 20000 in
theorem gX5_submit_X5_findCandidates : GoodIn wsX5_submit (wsV RX5 85 RX5 yX5_findCandidates wsX5_findCandidates) := goodIn_app (goodIn_of _ (by decide +kernel)) ggX5_submit_X5_findCandidates
set_option maxRecDepth 20000 in
theorem ggX5_submit_X5_save : GoodIn wsX5_submit wsX5_save := goodIn_r _ [27, 28, 29, 2, 74, 75, 76, 77, 78, 79] (by decide +kernel) (by decide +kernel)
set_option maxRecDepth 20000 in
theorem gX5_submit_X5_save : GoodIn wsX5_submit (wsV RX5 51 RX5 yX5_save wsX5_save) := goodIn_app (goodIn_of _ (by decide +kernel)) ggX5_submit_X5_save
set_option maxRecDepth 20000 in
theorem ggX5_submit_X5_taken : GoodIn wsX5_submit wsX5_taken := goodIn_r _ [33, 2, 19, 34, 35, 36, 6, 37, 38, 39, 40, 41, 42, 43, 44, 45, 46, 47, 48, 49, 50, 51, 52, 53, 54, 55, 56, 57, 58, 59, 60, 61, 74, 75, 76, 77, 78, 79] (by decide +kernel) (by decide +kernel)
set_option maxRecDepth 20000 in
theorem gX5_submit_X5_taken : GoodIn wsX5_submit (wsV RX5 89 RX5 yX5_taken wsX5_taken) := goodIn_app (goodIn_of _ (by decide +kernel)) ggX5_submit_X5_taken
set_option maxRecDepth 20000 in
theorem ggX5_submit_X5_lengthOf : GoodIn wsX5_submit wsX5_lengthOf := goodIn_r _ [53, 2, 54, 55, 56, 6, 57, 74, 75, 76, 77, 78, 79] (by decide +kernel) (by decide +kernel)
set_option maxRecDepth 20000 in
theorem gX5_submit_X5_lengthOf : GoodIn wsX5_submit (wsV RX5 69 RX5 yX5_lengthOf wsX5_lengthOf) := goodIn_app (goodIn_of _ (by decide +kernel)) ggX5_submit_X5_lengthOf
set_option maxRecDepth 20000 in
theorem ggX5_submit_X5_isSomeIdle : GoodIn wsX5_submit wsX5_isSomeIdle := goodIn_r _ [65, 19, 50, 51, 52, 6, 53, 2, 54, 55, 56, 57, 74, 75, 76, 77, 78, 79] (by decide +kernel) (by decide +kernel)
set_option maxRecDepth 20000 in
theorem gX5_submit_X5_isSomeIdle : GoodIn wsX5_submit (wsV RX5 92 RX5 yX5_isSomeIdle wsX5_isSomeIdle) := goodIn_app (goodIn_of _ (by decide +kernel)) ggX5_submit_X5_isSomeIdle
set_option maxRecDepth 20000 in
theorem ggX5_submit_X5_leave : GoodIn wsX5_submit wsX5_leave := goodIn_r _ [69, 2, 70, 71, 72, 6, 73, 74, 75, 76, 77, 78, 79] (by decide +kernel) (by decide +kernel)
set_option maxRecDepth 20000 in
theorem gX5_submit_X5_leave : GoodIn wsX5_submit (wsV RX5 72 RX5 yX5_leave wsX5_leave) := goodIn_app (goodIn_of _ (by decide +kernel)) ggX5_submit_X5_leave
theorem dX5_submit_0 : decode cX5_submit 0 = .ok (.aload_n 0, 1) := by decide +kernel
theorem dX5_submit_1 : decode cX5_submit 1 = .ok (.iconst 0, 1) := by decide +kernel
theorem dX5_submit_2 : decode cX5_submit 2 = .ok (.putfield 19, 3) := by decide +kernel
theorem dX5_submit_5 : decode cX5_submit 5 = .ok (.aload_n 0, 1) := by decide +kernel
theorem dX5_submit_6 : decode cX5_submit 6 = .ok (.iload_n 1, 1) := by decide +kernel
theorem dX5_submit_7 : decode cX5_submit 7 = .ok (.invokevirtual 58, 3) := by decide +kernel
theorem dX5_submit_10 : decode cX5_submit 10 = .ok (.ifCond .eq 13, 3) := by decide +kernel
theorem dX5_submit_13 : decode cX5_submit 13 = .ok (.iload_n 2, 1) := by decide +kernel
theorem dX5_submit_14 : decode cX5_submit 14 = .ok (.iconst 1, 1) := by decide +kernel
theorem dX5_submit_15 : decode cX5_submit 15 = .ok (.bipush 20, 2) := by decide +kernel
theorem dX5_submit_17 : decode cX5_submit 17 = .ok (.invokestatic 23, 3) := by decide +kernel
theorem dX5_submit_20 : decode cX5_submit 20 = .ok (.ifCond .ne 9, 3) := by decide +kernel
theorem dX5_submit_23 : decode cX5_submit 23 = .ok (.aload_n 0, 1) := by decide +kernel
theorem dX5_submit_24 : decode cX5_submit 24 = .ok (.iconst 1, 1) := by decide +kernel
theorem dX5_submit_25 : decode cX5_submit 25 = .ok (.invokevirtual 48, 3) := by decide +kernel
theorem dX5_submit_28 : decode cX5_submit 28 = .ok (.ireturn, 1) := by decide +kernel
theorem dX5_submit_29 : decode cX5_submit 29 = .ok (.aload_n 0, 1) := by decide +kernel
theorem dX5_submit_30 : decode cX5_submit 30 = .ok (.invokevirtual 85, 3) := by decide +kernel
theorem dX5_submit_33 : decode cX5_submit 33 = .ok (.istore_n 3, 1) := by decide +kernel
theorem dX5_submit_34 : decode cX5_submit 34 = .ok (.iload_n 3, 1) := by decide +kernel
theorem dX5_submit_35 : decode cX5_submit 35 = .ok (.ifCond .eq 16, 3) := by decide +kernel
theorem dX5_submit_38 : decode cX5_submit 38 = .ok (.aload_n 0, 1) := by decide +kernel
theorem dX5_submit_39 : decode cX5_submit 39 = .ok (.getfield 7, 3) := by decide +kernel
theorem dX5_submit_42 : decode cX5_submit 42 = .ok (.bipush 6, 2) := by decide +kernel
theorem dX5_submit_44 : decode cX5_submit 44 = .ok (.iaload, 1) := by decide +kernel
theorem dX5_submit_45 : decode cX5_submit 45 = .ok (.sipush 200, 3) := by decide +kernel
theorem dX5_submit_48 : decode cX5_submit 48 = .ok (.if_icmp .ne 9, 3) := by decide +kernel
theorem dX5_submit_51 : decode cX5_submit 51 = .ok (.aload_n 0, 1) := by decide +kernel
theorem dX5_submit_52 : decode cX5_submit 52 = .ok (.iconst 2, 1) := by decide +kernel
theorem dX5_submit_53 : decode cX5_submit 53 = .ok (.invokevirtual 48, 3) := by decide +kernel
theorem dX5_submit_56 : decode cX5_submit 56 = .ok (.ireturn, 1) := by decide +kernel
theorem dX5_submit_57 : decode cX5_submit 57 = .ok (.aload_n 0, 1) := by decide +kernel
theorem dX5_submit_58 : decode cX5_submit 58 = .ok (.invokevirtual 51, 3) := by decide +kernel
theorem dX5_submit_61 : decode cX5_submit 61 = .ok (.aload_n 0, 1) := by decide +kernel
theorem dX5_submit_62 : decode cX5_submit 62 = .ok (.iload_n 1, 1) := by decide +kernel
theorem dX5_submit_63 : decode cX5_submit 63 = .ok (.iload_n 3, 1) := by decide +kernel
theorem dX5_submit_64 : decode cX5_submit 64 = .ok (.invokevirtual 89, 3) := by decide +kernel
theorem dX5_submit_67 : decode cX5_submit 67 = .ok (.istore 4, 2) := by decide +kernel
theorem dX5_submit_69 : decode cX5_submit 69 = .ok (.aload_n 0, 1) := by decide +kernel
theorem dX5_submit_70 : decode cX5_submit 70 = .ok (.iload 4, 2) := by decide +kernel
theorem dX5_submit_72 : decode cX5_submit 72 = .ok (.invokevirtual 69, 3) := by decide +kernel
theorem dX5_submit_75 : decode cX5_submit 75 = .ok (.istore 5, 2) := by decide +kernel
theorem dX5_submit_77 : decode cX5_submit 77 = .ok (.aload_n 0, 1) := by decide +kernel
theorem dX5_submit_78 : decode cX5_submit 78 = .ok (.getfield 7, 3) := by decide +kernel
theorem dX5_submit_81 : decode cX5_submit 81 = .ok (.bipush 8, 2) := by decide +kernel
theorem dX5_submit_83 : decode cX5_submit 83 = .ok (.dup2, 1) := by decide +kernel
theorem dX5_submit_84 : decode cX5_submit 84 = .ok (.iaload, 1) := by decide +kernel
theorem dX5_submit_85 : decode cX5_submit 85 = .ok (.iload 5, 2) := by decide +kernel
theorem dX5_submit_87 : decode cX5_submit 87 = .ok (.ifCond .le 15, 3) := by decide +kernel
theorem dX5_submit_90 : decode cX5_submit 90 = .ok (.aload_n 0, 1) := by decide +kernel
theorem dX5_submit_91 : decode cX5_submit 91 = .ok (.iload_n 3, 1) := by decide +kernel
theorem dX5_submit_92 : decode cX5_submit 92 = .ok (.invokevirtual 92, 3) := by decide +kernel
theorem dX5_submit_95 : decode cX5_submit 95 = .ok (.ifCond .eq 7, 3) := by decide +kernel
theorem dX5_submit_98 : decode cX5_submit 98 = .ok (.iconst 1, 1) := by decide +kernel
theorem dX5_submit_99 : decode cX5_submit 99 = .ok (.goto 4, 3) := by decide +kernel
theorem dX5_submit_102 : decode cX5_submit 102 = .ok (.iconst 0, 1) := by decide +kernel
theorem dX5_submit_103 : decode cX5_submit 103 = .ok (.iadd, 1) := by decide +kernel
theorem dX5_submit_104 : decode cX5_submit 104 = .ok (.iastore, 1) := by decide +kernel
theorem dX5_submit_105 : decode cX5_submit 105 = .ok (.aload_n 0, 1) := by decide +kernel
theorem dX5_submit_106 : decode cX5_submit 106 = .ok (.iload 4, 2) := by decide +kernel
theorem dX5_submit_108 : decode cX5_submit 108 = .ok (.invokevirtual 72, 3) := by decide +kernel
theorem dX5_submit_111 : decode cX5_submit 111 = .ok (.aload_n 0, 1) := by decide +kernel
theorem dX5_submit_112 : decode cX5_submit 112 = .ok (.getfield 7, 3) := by decide +kernel
theorem dX5_submit_115 : decode cX5_submit 115 = .ok (.bipush 6, 2) := by decide +kernel
theorem dX5_submit_117 : decode cX5_submit 117 = .ok (.iaload, 1) := by decide +kernel
theorem dX5_submit_118 : decode cX5_submit 118 = .ok (.istore 6, 2) := by decide +kernel
theorem dX5_submit_120 : decode cX5_submit 120 = .ok (.aload_n 0, 1) := by decide +kernel
theorem dX5_submit_121 : decode cX5_submit 121 = .ok (.getfield 7, 3) := by decide +kernel
theorem dX5_submit_124 : decode cX5_submit 124 = .ok (.bipush 93, 2) := by decide +kernel
theorem dX5_submit_126 : decode cX5_submit 126 = .ok (.iload 6, 2) := by decide +kernel
theorem dX5_submit_128 : decode cX5_submit 128 = .ok (.iadd, 1) := by decide +kernel
theorem dX5_submit_129 : decode cX5_submit 129 = .ok (.iload 4, 2) := by decide +kernel
theorem dX5_submit_131 : decode cX5_submit 131 = .ok (.iastore, 1) := by decide +kernel
theorem dX5_submit_132 : decode cX5_submit 132 = .ok (.aload_n 0, 1) := by decide +kernel
theorem dX5_submit_133 : decode cX5_submit 133 = .ok (.getfield 7, 3) := by decide +kernel
theorem dX5_submit_136 : decode cX5_submit 136 = .ok (.sipush 293, 3) := by decide +kernel
theorem dX5_submit_139 : decode cX5_submit 139 = .ok (.iload 6, 2) := by decide +kernel
theorem dX5_submit_141 : decode cX5_submit 141 = .ok (.iadd, 1) := by decide +kernel
theorem dX5_submit_142 : decode cX5_submit 142 = .ok (.iload_n 2, 1) := by decide +kernel
theorem dX5_submit_143 : decode cX5_submit 143 = .ok (.iastore, 1) := by decide +kernel
theorem dX5_submit_144 : decode cX5_submit 144 = .ok (.aload_n 0, 1) := by decide +kernel
theorem dX5_submit_145 : decode cX5_submit 145 = .ok (.getfield 7, 3) := by decide +kernel
theorem dX5_submit_148 : decode cX5_submit 148 = .ok (.sipush 493, 3) := by decide +kernel
theorem dX5_submit_151 : decode cX5_submit 151 = .ok (.iload 6, 2) := by decide +kernel
theorem dX5_submit_153 : decode cX5_submit 153 = .ok (.iadd, 1) := by decide +kernel
theorem dX5_submit_154 : decode cX5_submit 154 = .ok (.iload 5, 2) := by decide +kernel
theorem dX5_submit_156 : decode cX5_submit 156 = .ok (.ifCond .ne 7, 3) := by decide +kernel
theorem dX5_submit_159 : decode cX5_submit 159 = .ok (.iconst 0, 1) := by decide +kernel
theorem dX5_submit_160 : decode cX5_submit 160 = .ok (.goto 4, 3) := by decide +kernel
theorem dX5_submit_163 : decode cX5_submit 163 = .ok (.iconst (-1), 1) := by decide +kernel
theorem dX5_submit_164 : decode cX5_submit 164 = .ok (.iastore, 1) := by decide +kernel
theorem dX5_submit_165 : decode cX5_submit 165 = .ok (.aload_n 0, 1) := by decide +kernel
theorem dX5_submit_166 : decode cX5_submit 166 = .ok (.getfield 7, 3) := by decide +kernel
theorem dX5_submit_169 : decode cX5_submit 169 = .ok (.sipush 693, 3) := by decide +kernel
theorem dX5_submit_172 : decode cX5_submit 172 = .ok (.iload 6, 2) := by decide +kernel
theorem dX5_submit_174 : decode cX5_submit 174 = .ok (.iadd, 1) := by decide +kernel
theorem dX5_submit_175 : decode cX5_submit 175 = .ok (.aload_n 0, 1) := by decide +kernel
theorem dX5_submit_176 : decode cX5_submit 176 = .ok (.getfield 7, 3) := by decide +kernel
theorem dX5_submit_179 : decode cX5_submit 179 = .ok (.iconst 1, 1) := by decide +kernel
theorem dX5_submit_180 : decode cX5_submit 180 = .ok (.iaload, 1) := by decide +kernel
theorem dX5_submit_181 : decode cX5_submit 181 = .ok (.iastore, 1) := by decide +kernel
theorem dX5_submit_182 : decode cX5_submit 182 = .ok (.aload_n 0, 1) := by decide +kernel
theorem dX5_submit_183 : decode cX5_submit 183 = .ok (.getfield 7, 3) := by decide +kernel
theorem dX5_submit_186 : decode cX5_submit 186 = .ok (.bipush 6, 2) := by decide +kernel
theorem dX5_submit_188 : decode cX5_submit 188 = .ok (.dup2, 1) := by decide +kernel
theorem dX5_submit_189 : decode cX5_submit 189 = .ok (.iaload, 1) := by decide +kernel
theorem dX5_submit_190 : decode cX5_submit 190 = .ok (.iconst 1, 1) := by decide +kernel
theorem dX5_submit_191 : decode cX5_submit 191 = .ok (.iadd, 1) := by decide +kernel
theorem dX5_submit_192 : decode cX5_submit 192 = .ok (.iastore, 1) := by decide +kernel
theorem dX5_submit_193 : decode cX5_submit 193 = .ok (.iload 4, 2) := by decide +kernel
theorem dX5_submit_195 : decode cX5_submit 195 = .ok (.ireturn, 1) := by decide +kernel
set_option maxRecDepth 20000 in
theorem ggX5_serve_X5_firstJob : GoodIn wsX5_serve wsX5_firstJob := goodIn_r _ [6, 1, 7, 8, 9, 5, 10, 27, 28, 29, 30, 31, 32] (by decide +kernel) (by decide +kernel)
set_option maxRecDepth 20000 in
theorem gX5_serve_X5_firstJob : GoodIn wsX5_serve (wsV RX5 95 RX5 yX5_firstJob wsX5_firstJob) := goodIn_app (goodIn_of _ (by decide +kernel)) ggX5_serve_X5_firstJob
set_option maxRecDepth 20000 in
theorem ggX5_serve_X5_isUp : GoodIn wsX5_serve wsX5_isUp := goodIn_r _ [14, 1, 27, 28, 29, 30, 31, 32] (by decide +kernel) (by decide +kernel)
set_option maxRecDepth 20000 in
theorem gX5_serve_X5_isUp : GoodIn wsX5_serve (wsV RX5 66 RX5 yX5_isUp wsX5_isUp) := goodIn_app (goodIn_of _ (by decide +kernel)) ggX5_serve_X5_isUp
set_option maxRecDepth 20000 in
theorem ggX5_serve_X5_register : GoodIn wsX5_serve wsX5_register := goodIn_r _ [18, 1, 19, 20, 21, 5, 22, 23, 24, 25, 26, 27, 28, 29, 30, 31, 32] (by decide +kernel) (by decide +kernel)
set_option maxRecDepth 20000 in
theorem gX5_serve_X5_register : GoodIn wsX5_serve (wsV RX5 54 RX5 yX5_register wsX5_register) := goodIn_app (goodIn_of _ (by decide +kernel)) ggX5_serve_X5_register
theorem dX5_serve_0 : decode cX5_serve 0 = .ok (.aload_n 0, 1) := by decide +kernel
theorem dX5_serve_1 : decode cX5_serve 1 = .ok (.iload_n 1, 1) := by decide +kernel
theorem dX5_serve_2 : decode cX5_serve 2 = .ok (.invokevirtual 95, 3) := by decide +kernel
theorem dX5_serve_5 : decode cX5_serve 5 = .ok (.istore_n 2, 1) := by decide +kernel
theorem dX5_serve_6 : decode cX5_serve 6 = .ok (.iload_n 2, 1) := by decide +kernel
theorem dX5_serve_7 : decode cX5_serve 7 = .ok (.iconst (-1), 1) := by decide +kernel
theorem dX5_serve_8 : decode cX5_serve 8 = .ok (.if_icmp .ne 4, 3) := by decide +kernel
theorem dX5_serve_11 : decode cX5_serve 11 = .ok (.return_, 1) := by decide +kernel
theorem dX5_serve_12 : decode cX5_serve 12 = .ok (.aload_n 0, 1) := by decide +kernel
theorem dX5_serve_13 : decode cX5_serve 13 = .ok (.getfield 7, 3) := by decide +kernel
theorem dX5_serve_16 : decode cX5_serve 16 = .ok (.sipush 293, 3) := by decide +kernel
theorem dX5_serve_19 : decode cX5_serve 19 = .ok (.iload_n 2, 1) := by decide +kernel
theorem dX5_serve_20 : decode cX5_serve 20 = .ok (.iadd, 1) := by decide +kernel
theorem dX5_serve_21 : decode cX5_serve 21 = .ok (.dup2, 1) := by decide +kernel
theorem dX5_serve_22 : decode cX5_serve 22 = .ok (.iaload, 1) := by decide +kernel
theorem dX5_serve_23 : decode cX5_serve 23 = .ok (.iconst 1, 1) := by decide +kernel
theorem dX5_serve_24 : decode cX5_serve 24 = .ok (.isub, 1) := by decide +kernel
theorem dX5_serve_25 : decode cX5_serve 25 = .ok (.iastore, 1) := by decide +kernel
theorem dX5_serve_26 : decode cX5_serve 26 = .ok (.aload_n 0, 1) := by decide +kernel
theorem dX5_serve_27 : decode cX5_serve 27 = .ok (.getfield 7, 3) := by decide +kernel
theorem dX5_serve_30 : decode cX5_serve 30 = .ok (.sipush 293, 3) := by decide +kernel
theorem dX5_serve_33 : decode cX5_serve 33 = .ok (.iload_n 2, 1) := by decide +kernel
theorem dX5_serve_34 : decode cX5_serve 34 = .ok (.iadd, 1) := by decide +kernel
theorem dX5_serve_35 : decode cX5_serve 35 = .ok (.iaload, 1) := by decide +kernel
theorem dX5_serve_36 : decode cX5_serve 36 = .ok (.ifCond .le 4, 3) := by decide +kernel
theorem dX5_serve_39 : decode cX5_serve 39 = .ok (.return_, 1) := by decide +kernel
theorem dX5_serve_40 : decode cX5_serve 40 = .ok (.aload_n 0, 1) := by decide +kernel
theorem dX5_serve_41 : decode cX5_serve 41 = .ok (.getfield 7, 3) := by decide +kernel
theorem dX5_serve_44 : decode cX5_serve 44 = .ok (.bipush 7, 2) := by decide +kernel
theorem dX5_serve_46 : decode cX5_serve 46 = .ok (.dup2, 1) := by decide +kernel
theorem dX5_serve_47 : decode cX5_serve 47 = .ok (.iaload, 1) := by decide +kernel
theorem dX5_serve_48 : decode cX5_serve 48 = .ok (.iconst 1, 1) := by decide +kernel
theorem dX5_serve_49 : decode cX5_serve 49 = .ok (.iadd, 1) := by decide +kernel
theorem dX5_serve_50 : decode cX5_serve 50 = .ok (.iastore, 1) := by decide +kernel
theorem dX5_serve_51 : decode cX5_serve 51 = .ok (.aload_n 0, 1) := by decide +kernel
theorem dX5_serve_52 : decode cX5_serve 52 = .ok (.iload_n 1, 1) := by decide +kernel
theorem dX5_serve_53 : decode cX5_serve 53 = .ok (.invokevirtual 95, 3) := by decide +kernel
theorem dX5_serve_56 : decode cX5_serve 56 = .ok (.istore_n 3, 1) := by decide +kernel
theorem dX5_serve_57 : decode cX5_serve 57 = .ok (.iload_n 3, 1) := by decide +kernel
theorem dX5_serve_58 : decode cX5_serve 58 = .ok (.iconst (-1), 1) := by decide +kernel
theorem dX5_serve_59 : decode cX5_serve 59 = .ok (.if_icmp .eq 33, 3) := by decide +kernel
theorem dX5_serve_62 : decode cX5_serve 62 = .ok (.aload_n 0, 1) := by decide +kernel
theorem dX5_serve_63 : decode cX5_serve 63 = .ok (.getfield 7, 3) := by decide +kernel
theorem dX5_serve_66 : decode cX5_serve 66 = .ok (.sipush 493, 3) := by decide +kernel
theorem dX5_serve_69 : decode cX5_serve 69 = .ok (.iload_n 3, 1) := by decide +kernel
theorem dX5_serve_70 : decode cX5_serve 70 = .ok (.iadd, 1) := by decide +kernel
theorem dX5_serve_71 : decode cX5_serve 71 = .ok (.aload_n 0, 1) := by decide +kernel
theorem dX5_serve_72 : decode cX5_serve 72 = .ok (.getfield 7, 3) := by decide +kernel
theorem dX5_serve_75 : decode cX5_serve 75 = .ok (.iconst 1, 1) := by decide +kernel
theorem dX5_serve_76 : decode cX5_serve 76 = .ok (.iaload, 1) := by decide +kernel
theorem dX5_serve_77 : decode cX5_serve 77 = .ok (.aload_n 0, 1) := by decide +kernel
theorem dX5_serve_78 : decode cX5_serve 78 = .ok (.getfield 7, 3) := by decide +kernel
theorem dX5_serve_81 : decode cX5_serve 81 = .ok (.sipush 693, 3) := by decide +kernel
theorem dX5_serve_84 : decode cX5_serve 84 = .ok (.iload_n 3, 1) := by decide +kernel
theorem dX5_serve_85 : decode cX5_serve 85 = .ok (.iadd, 1) := by decide +kernel
theorem dX5_serve_86 : decode cX5_serve 86 = .ok (.iaload, 1) := by decide +kernel
theorem dX5_serve_87 : decode cX5_serve 87 = .ok (.isub, 1) := by decide +kernel
theorem dX5_serve_88 : decode cX5_serve 88 = .ok (.iastore, 1) := by decide +kernel
theorem dX5_serve_89 : decode cX5_serve 89 = .ok (.goto 16, 3) := by decide +kernel
theorem dX5_serve_92 : decode cX5_serve 92 = .ok (.aload_n 0, 1) := by decide +kernel
theorem dX5_serve_93 : decode cX5_serve 93 = .ok (.iload_n 1, 1) := by decide +kernel
theorem dX5_serve_94 : decode cX5_serve 94 = .ok (.invokevirtual 66, 3) := by decide +kernel
theorem dX5_serve_97 : decode cX5_serve 97 = .ok (.ifCond .eq 8, 3) := by decide +kernel
theorem dX5_serve_100 : decode cX5_serve 100 = .ok (.aload_n 0, 1) := by decide +kernel
theorem dX5_serve_101 : decode cX5_serve 101 = .ok (.iload_n 1, 1) := by decide +kernel
theorem dX5_serve_102 : decode cX5_serve 102 = .ok (.invokevirtual 54, 3) := by decide +kernel
theorem dX5_serve_105 : decode cX5_serve 105 = .ok (.return_, 1) := by decide +kernel
set_option maxRecDepth 20000 in
theorem ggX5_report_X5_lengthOf : GoodIn wsX5_report wsX5_lengthOf := goodIn_r _ [6, 1, 7, 8, 9, 5, 10, 11, 12, 13, 14, 15, 16] (by decide +kernel) (by decide +kernel)
set_option maxRecDepth 20000 in
theorem gX5_report_X5_lengthOf : GoodIn wsX5_report (wsV RX5 69 RX5 yX5_lengthOf wsX5_lengthOf) := goodIn_app (goodIn_of _ (by decide +kernel)) ggX5_report_X5_lengthOf
theorem dX5_report_0 : decode cX5_report 0 = .ok (.iconst 0, 1) := by decide +kernel
theorem dX5_report_1 : decode cX5_report 1 = .ok (.istore_n 1, 1) := by decide +kernel
theorem dX5_report_2 : decode cX5_report 2 = .ok (.iload_n 1, 1) := by decide +kernel
theorem dX5_report_3 : decode cX5_report 3 = .ok (.aload_n 0, 1) := by decide +kernel
theorem dX5_report_4 : decode cX5_report 4 = .ok (.getfield 7, 3) := by decide +kernel
theorem dX5_report_7 : decode cX5_report 7 = .ok (.iconst 4, 1) := by decide +kernel
theorem dX5_report_8 : decode cX5_report 8 = .ok (.iaload, 1) := by decide +kernel
theorem dX5_report_9 : decode cX5_report 9 = .ok (.if_icmp .ge 48, 3) := by decide +kernel
theorem dX5_report_12 : decode cX5_report 12 = .ok (.aload_n 0, 1) := by decide +kernel
theorem dX5_report_13 : decode cX5_report 13 = .ok (.iload_n 1, 1) := by decide +kernel
theorem dX5_report_14 : decode cX5_report 14 = .ok (.invokevirtual 69, 3) := by decide +kernel
theorem dX5_report_17 : decode cX5_report 17 = .ok (.istore_n 2, 1) := by decide +kernel
theorem dX5_report_18 : decode cX5_report 18 = .ok (.iconst 0, 1) := by decide +kernel
theorem dX5_report_19 : decode cX5_report 19 = .ok (.istore_n 3, 1) := by decide +kernel
theorem dX5_report_20 : decode cX5_report 20 = .ok (.iload_n 3, 1) := by decide +kernel
theorem dX5_report_21 : decode cX5_report 21 = .ok (.aload_n 0, 1) := by decide +kernel
theorem dX5_report_22 : decode cX5_report 22 = .ok (.getfield 7, 3) := by decide +kernel
theorem dX5_report_25 : decode cX5_report 25 = .ok (.iconst 5, 1) := by decide +kernel
theorem dX5_report_26 : decode cX5_report 26 = .ok (.iaload, 1) := by decide +kernel
theorem dX5_report_27 : decode cX5_report 27 = .ok (.if_icmp .ge 24, 3) := by decide +kernel
theorem dX5_report_30 : decode cX5_report 30 = .ok (.aload_n 0, 1) := by decide +kernel
theorem dX5_report_31 : decode cX5_report 31 = .ok (.getfield 7, 3) := by decide +kernel
theorem dX5_report_34 : decode cX5_report 34 = .ok (.bipush 25, 2) := by decide +kernel
theorem dX5_report_36 : decode cX5_report 36 = .ok (.bipush 8, 2) := by decide +kernel
theorem dX5_report_38 : decode cX5_report 38 = .ok (.iload_n 3, 1) := by decide +kernel
theorem dX5_report_39 : decode cX5_report 39 = .ok (.imul, 1) := by decide +kernel
theorem dX5_report_40 : decode cX5_report 40 = .ok (.iadd, 1) := by decide +kernel
theorem dX5_report_41 : decode cX5_report 41 = .ok (.iload_n 1, 1) := by decide +kernel
theorem dX5_report_42 : decode cX5_report 42 = .ok (.iadd, 1) := by decide +kernel
theorem dX5_report_43 : decode cX5_report 43 = .ok (.iload_n 2, 1) := by decide +kernel
theorem dX5_report_44 : decode cX5_report 44 = .ok (.iastore, 1) := by decide +kernel
theorem dX5_report_45 : decode cX5_report 45 = .ok (.iinc 3 1, 3) := by decide +kernel
theorem dX5_report_48 : decode cX5_report 48 = .ok (.goto (-28), 3) := by decide +kernel
theorem dX5_report_51 : decode cX5_report 51 = .ok (.iinc 1 1, 3) := by decide +kernel
theorem dX5_report_54 : decode cX5_report 54 = .ok (.goto (-52), 3) := by decide +kernel
theorem dX5_report_57 : decode cX5_report 57 = .ok (.return_, 1) := by decide +kernel
set_option maxRecDepth 20000 in
theorem ggX5_tick_X5_in : GoodIn wsX5_tick wsX5_in := goodIn_r _ [6] (by decide +kernel) (by decide +kernel)
set_option maxRecDepth 20000 in
theorem gX5_tick_X5_in : GoodIn wsX5_tick (va_wsS RX5 23 yX5_in wsX5_in) := goodIn_app (goodIn_of _ (by decide +kernel)) ggX5_tick_X5_in
set_option maxRecDepth 20000 in
theorem ggX5_tick_X5_refuse : GoodIn wsX5_tick wsX5_refuse := goodIn_r _ [10, 1, 53, 54, 55, 56, 57, 58] (by decide +kernel) (by decide +kernel)
set_option maxRecDepth 20000 in
theorem gX5_tick_X5_refuse : GoodIn wsX5_tick (wsV RX5 48 RX5 yX5_refuse wsX5_refuse) := goodIn_app (goodIn_of _ (by decide +kernel)) ggX5_tick_X5_refuse
set_option maxRecDepth 20000 in
theorem ggX5_tick_X5_save : GoodIn wsX5_tick wsX5_save := goodIn_r _ [14, 15, 16, 2, 53, 54, 55, 56, 57, 58] (by decide +kernel) (by decide +kernel)
set_option maxRecDepth 20000 in
theorem gX5_tick_X5_save : GoodIn wsX5_tick (wsV RX5 51 RX5 yX5_save wsX5_save) := goodIn_app (goodIn_of _ (by decide +kernel)) ggX5_tick_X5_save
set_option maxRecDepth 20000 in
theorem ggX5_tick_X5_serve : GoodIn wsX5_tick wsX5_serve := goodIn_r _ [20, 2, 21, 22, 23, 5, 24, 25, 26, 27, 28, 29, 30, 31, 32, 33, 34, 35, 36, 37, 38, 39, 40, 41, 42, 43, 44, 53, 54, 55, 56, 57, 58] (by decide +kernel) (by decide +kernel)
set_option maxRecDepth 20000 in
theorem gX5_tick_X5_serve : GoodIn wsX5_tick (wsV RX5 98 RX5 yX5_serve wsX5_serve) := goodIn_app (goodIn_of _ (by decide +kernel)) ggX5_tick_X5_serve
set_option maxRecDepth 20000 in
theorem ggX5_tick_X5_report : GoodIn wsX5_tick wsX5_report := goodIn_r _ [48, 2, 49, 50, 51, 5, 52, 25, 26, 27, 28, 53, 54, 55, 56, 57, 58] (by decide +kernel) (by decide +kernel)
set_option maxRecDepth 20000 in
theorem gX5_tick_X5_report : GoodIn wsX5_tick (wsV RX5 101 RX5 yX5_report wsX5_report) := goodIn_app (goodIn_of _ (by decide +kernel)) ggX5_tick_X5_report
theorem dX5_tick_0 : decode cX5_tick 0 = .ok (.aload_n 0, 1) := by decide +kernel
theorem dX5_tick_1 : decode cX5_tick 1 = .ok (.iconst 0, 1) := by decide +kernel
theorem dX5_tick_2 : decode cX5_tick 2 = .ok (.putfield 19, 3) := by decide +kernel
theorem dX5_tick_5 : decode cX5_tick 5 = .ok (.iload_n 1, 1) := by decide +kernel
theorem dX5_tick_6 : decode cX5_tick 6 = .ok (.iconst 0, 1) := by decide +kernel
theorem dX5_tick_7 : decode cX5_tick 7 = .ok (.sipush 500, 3) := by decide +kernel
theorem dX5_tick_10 : decode cX5_tick 10 = .ok (.invokestatic 23, 3) := by decide +kernel
theorem dX5_tick_13 : decode cX5_tick 13 = .ok (.ifCond .ne 9, 3) := by decide +kernel
theorem dX5_tick_16 : decode cX5_tick 16 = .ok (.aload_n 0, 1) := by decide +kernel
theorem dX5_tick_17 : decode cX5_tick 17 = .ok (.iconst 1, 1) := by decide +kernel
theorem dX5_tick_18 : decode cX5_tick 18 = .ok (.invokevirtual 48, 3) := by decide +kernel
theorem dX5_tick_21 : decode cX5_tick 21 = .ok (.ireturn, 1) := by decide +kernel
theorem dX5_tick_22 : decode cX5_tick 22 = .ok (.aload_n 0, 1) := by decide +kernel
theorem dX5_tick_23 : decode cX5_tick 23 = .ok (.invokevirtual 51, 3) := by decide +kernel
theorem dX5_tick_26 : decode cX5_tick 26 = .ok (.aload_n 0, 1) := by decide +kernel
theorem dX5_tick_27 : decode cX5_tick 27 = .ok (.getfield 7, 3) := by decide +kernel
theorem dX5_tick_30 : decode cX5_tick 30 = .ok (.bipush 7, 2) := by decide +kernel
theorem dX5_tick_32 : decode cX5_tick 32 = .ok (.iaload, 1) := by decide +kernel
theorem dX5_tick_33 : decode cX5_tick 33 = .ok (.istore_n 2, 1) := by decide +kernel
theorem dX5_tick_34 : decode cX5_tick 34 = .ok (.iconst 0, 1) := by decide +kernel
theorem dX5_tick_35 : decode cX5_tick 35 = .ok (.istore_n 3, 1) := by decide +kernel
theorem dX5_tick_36 : decode cX5_tick 36 = .ok (.iload_n 3, 1) := by decide +kernel
theorem dX5_tick_37 : decode cX5_tick 37 = .ok (.iload_n 1, 1) := by decide +kernel
theorem dX5_tick_38 : decode cX5_tick 38 = .ok (.if_icmp .ge 65, 3) := by decide +kernel
theorem dX5_tick_41 : decode cX5_tick 41 = .ok (.aload_n 0, 1) := by decide +kernel
theorem dX5_tick_42 : decode cX5_tick 42 = .ok (.getfield 7, 3) := by decide +kernel
theorem dX5_tick_45 : decode cX5_tick 45 = .ok (.iconst 1, 1) := by decide +kernel
theorem dX5_tick_46 : decode cX5_tick 46 = .ok (.dup2, 1) := by decide +kernel
theorem dX5_tick_47 : decode cX5_tick 47 = .ok (.iaload, 1) := by decide +kernel
theorem dX5_tick_48 : decode cX5_tick 48 = .ok (.iconst 1, 1) := by decide +kernel
theorem dX5_tick_49 : decode cX5_tick 49 = .ok (.iadd, 1) := by decide +kernel
theorem dX5_tick_50 : decode cX5_tick 50 = .ok (.iastore, 1) := by decide +kernel
theorem dX5_tick_51 : decode cX5_tick 51 = .ok (.iconst 0, 1) := by decide +kernel
theorem dX5_tick_52 : decode cX5_tick 52 = .ok (.istore 4, 2) := by decide +kernel
theorem dX5_tick_54 : decode cX5_tick 54 = .ok (.iload 4, 2) := by decide +kernel
theorem dX5_tick_56 : decode cX5_tick 56 = .ok (.aload_n 0, 1) := by decide +kernel
theorem dX5_tick_57 : decode cX5_tick 57 = .ok (.getfield 7, 3) := by decide +kernel
theorem dX5_tick_60 : decode cX5_tick 60 = .ok (.iconst 4, 1) := by decide +kernel
theorem dX5_tick_61 : decode cX5_tick 61 = .ok (.iaload, 1) := by decide +kernel
theorem dX5_tick_62 : decode cX5_tick 62 = .ok (.if_icmp .ge 15, 3) := by decide +kernel
theorem dX5_tick_65 : decode cX5_tick 65 = .ok (.aload_n 0, 1) := by decide +kernel
theorem dX5_tick_66 : decode cX5_tick 66 = .ok (.iload 4, 2) := by decide +kernel
theorem dX5_tick_68 : decode cX5_tick 68 = .ok (.invokevirtual 98, 3) := by decide +kernel
theorem dX5_tick_71 : decode cX5_tick 71 = .ok (.iinc 4 1, 3) := by decide +kernel
theorem dX5_tick_74 : decode cX5_tick 74 = .ok (.goto (-20), 3) := by decide +kernel
theorem dX5_tick_77 : decode cX5_tick 77 = .ok (.aload_n 0, 1) := by decide +kernel
theorem dX5_tick_78 : decode cX5_tick 78 = .ok (.getfield 7, 3) := by decide +kernel
theorem dX5_tick_81 : decode cX5_tick 81 = .ok (.iconst 1, 1) := by decide +kernel
theorem dX5_tick_82 : decode cX5_tick 82 = .ok (.iaload, 1) := by decide +kernel
theorem dX5_tick_83 : decode cX5_tick 83 = .ok (.aload_n 0, 1) := by decide +kernel
theorem dX5_tick_84 : decode cX5_tick 84 = .ok (.getfield 7, 3) := by decide +kernel
theorem dX5_tick_87 : decode cX5_tick 87 = .ok (.iconst 3, 1) := by decide +kernel
theorem dX5_tick_88 : decode cX5_tick 88 = .ok (.iaload, 1) := by decide +kernel
theorem dX5_tick_89 : decode cX5_tick 89 = .ok (.irem, 1) := by decide +kernel
theorem dX5_tick_90 : decode cX5_tick 90 = .ok (.ifCond .ne 7, 3) := by decide +kernel
theorem dX5_tick_93 : decode cX5_tick 93 = .ok (.aload_n 0, 1) := by decide +kernel
theorem dX5_tick_94 : decode cX5_tick 94 = .ok (.invokevirtual 101, 3) := by decide +kernel
theorem dX5_tick_97 : decode cX5_tick 97 = .ok (.iinc 3 1, 3) := by decide +kernel
theorem dX5_tick_100 : decode cX5_tick 100 = .ok (.goto (-64), 3) := by decide +kernel
theorem dX5_tick_103 : decode cX5_tick 103 = .ok (.aload_n 0, 1) := by decide +kernel
theorem dX5_tick_104 : decode cX5_tick 104 = .ok (.getfield 7, 3) := by decide +kernel
theorem dX5_tick_107 : decode cX5_tick 107 = .ok (.bipush 7, 2) := by decide +kernel
theorem dX5_tick_109 : decode cX5_tick 109 = .ok (.iaload, 1) := by decide +kernel
theorem dX5_tick_110 : decode cX5_tick 110 = .ok (.iload_n 2, 1) := by decide +kernel
theorem dX5_tick_111 : decode cX5_tick 111 = .ok (.isub, 1) := by decide +kernel
theorem dX5_tick_112 : decode cX5_tick 112 = .ok (.ireturn, 1) := by decide +kernel
set_option maxRecDepth 20000 in
theorem ggX5_length_X5_isServer : GoodIn wsX5_length wsX5_isServer := goodIn_r _ [6, 7, 8, 9, 5, 10, 23, 24, 25, 26, 27, 28] (by decide +kernel) (by decide +kernel)
set_option maxRecDepth 20000 in
theorem gX5_length_X5_isServer : GoodIn wsX5_length (wsV RX5 63 RX5 yX5_isServer wsX5_isServer) := goodIn_app (goodIn_of _ (by decide +kernel)) ggX5_length_X5_isServer
set_option maxRecDepth 20000 in
theorem ggX5_length_X5_lengthOf : GoodIn wsX5_length wsX5_lengthOf := goodIn_r _ [14, 7, 15, 16, 17, 5, 18, 23, 24, 25, 26, 27, 28] (by decide +kernel) (by decide +kernel)
set_option maxRecDepth 20000 in
theorem gX5_length_X5_lengthOf : GoodIn wsX5_length (wsV RX5 69 RX5 yX5_lengthOf wsX5_lengthOf) := goodIn_app (goodIn_of _ (by decide +kernel)) ggX5_length_X5_lengthOf
set_option maxRecDepth 20000 in
theorem ggX5_length_X5_refuse : GoodIn wsX5_length wsX5_refuse := goodIn_r _ [22, 1, 23, 24, 25, 26, 27, 28] (by decide +kernel) (by decide +kernel)
set_option maxRecDepth 20000 in
theorem gX5_length_X5_refuse : GoodIn wsX5_length (wsV RX5 48 RX5 yX5_refuse wsX5_refuse) := goodIn_app (goodIn_of _ (by decide +kernel)) ggX5_length_X5_refuse
theorem dX5_length_0 : decode cX5_length 0 = .ok (.aload_n 0, 1) := by decide +kernel
theorem dX5_length_1 : decode cX5_length 1 = .ok (.iconst 0, 1) := by decide +kernel
theorem dX5_length_2 : decode cX5_length 2 = .ok (.putfield 19, 3) := by decide +kernel
theorem dX5_length_5 : decode cX5_length 5 = .ok (.aload_n 0, 1) := by decide +kernel
theorem dX5_length_6 : decode cX5_length 6 = .ok (.iload_n 1, 1) := by decide +kernel
theorem dX5_length_7 : decode cX5_length 7 = .ok (.invokevirtual 63, 3) := by decide +kernel
theorem dX5_length_10 : decode cX5_length 10 = .ok (.ifCond .eq 11, 3) := by decide +kernel
theorem dX5_length_13 : decode cX5_length 13 = .ok (.aload_n 0, 1) := by decide +kernel
theorem dX5_length_14 : decode cX5_length 14 = .ok (.iload_n 1, 1) := by decide +kernel
theorem dX5_length_15 : decode cX5_length 15 = .ok (.invokevirtual 69, 3) := by decide +kernel
theorem dX5_length_18 : decode cX5_length 18 = .ok (.goto 8, 3) := by decide +kernel
theorem dX5_length_21 : decode cX5_length 21 = .ok (.aload_n 0, 1) := by decide +kernel
theorem dX5_length_22 : decode cX5_length 22 = .ok (.iconst 1, 1) := by decide +kernel
theorem dX5_length_23 : decode cX5_length 23 = .ok (.invokevirtual 48, 3) := by decide +kernel
theorem dX5_length_26 : decode cX5_length 26 = .ok (.ireturn, 1) := by decide +kernel
set_option maxRecDepth 20000 in
theorem ggX5_work_X5_isServer : GoodIn wsX5_work wsX5_isServer := goodIn_r _ [6, 7, 8, 9, 5, 10, 23, 24, 25, 26, 27, 28] (by decide +kernel) (by decide +kernel)
set_option maxRecDepth 20000 in
theorem gX5_work_X5_isServer : GoodIn wsX5_work (wsV RX5 63 RX5 yX5_isServer wsX5_isServer) := goodIn_app (goodIn_of _ (by decide +kernel)) ggX5_work_X5_isServer
set_option maxRecDepth 20000 in
theorem ggX5_work_X5_workOf : GoodIn wsX5_work wsX5_workOf := goodIn_r _ [14, 7, 15, 16, 17, 5, 18, 23, 24, 25, 26, 27, 28] (by decide +kernel) (by decide +kernel)
set_option maxRecDepth 20000 in
theorem gX5_work_X5_workOf : GoodIn wsX5_work (wsV RX5 104 RX5 yX5_workOf wsX5_workOf) := goodIn_app (goodIn_of _ (by decide +kernel)) ggX5_work_X5_workOf
set_option maxRecDepth 20000 in
theorem ggX5_work_X5_refuse : GoodIn wsX5_work wsX5_refuse := goodIn_r _ [22, 1, 23, 24, 25, 26, 27, 28] (by decide +kernel) (by decide +kernel)
set_option maxRecDepth 20000 in
theorem gX5_work_X5_refuse : GoodIn wsX5_work (wsV RX5 48 RX5 yX5_refuse wsX5_refuse) := goodIn_app (goodIn_of _ (by decide +kernel)) ggX5_work_X5_refuse
theorem dX5_work_0 : decode cX5_work 0 = .ok (.aload_n 0, 1) := by decide +kernel
theorem dX5_work_1 : decode cX5_work 1 = .ok (.iconst 0, 1) := by decide +kernel
theorem dX5_work_2 : decode cX5_work 2 = .ok (.putfield 19, 3) := by decide +kernel
theorem dX5_work_5 : decode cX5_work 5 = .ok (.aload_n 0, 1) := by decide +kernel
theorem dX5_work_6 : decode cX5_work 6 = .ok (.iload_n 1, 1) := by decide +kernel
theorem dX5_work_7 : decode cX5_work 7 = .ok (.invokevirtual 63, 3) := by decide +kernel
theorem dX5_work_10 : decode cX5_work 10 = .ok (.ifCond .eq 11, 3) := by decide +kernel
theorem dX5_work_13 : decode cX5_work 13 = .ok (.aload_n 0, 1) := by decide +kernel
theorem dX5_work_14 : decode cX5_work 14 = .ok (.iload_n 1, 1) := by decide +kernel
theorem dX5_work_15 : decode cX5_work 15 = .ok (.invokevirtual 104, 3) := by decide +kernel
theorem dX5_work_18 : decode cX5_work 18 = .ok (.goto 8, 3) := by decide +kernel
theorem dX5_work_21 : decode cX5_work 21 = .ok (.aload_n 0, 1) := by decide +kernel
theorem dX5_work_22 : decode cX5_work 22 = .ok (.iconst 1, 1) := by decide +kernel
theorem dX5_work_23 : decode cX5_work 23 = .ok (.invokevirtual 48, 3) := by decide +kernel
theorem dX5_work_26 : decode cX5_work 26 = .ok (.ireturn, 1) := by decide +kernel
set_option maxRecDepth 20000 in
theorem ggX5_registeredAt_X5_isServer : GoodIn wsX5_registeredAt wsX5_isServer := goodIn_r _ [6, 7, 8, 9, 5, 10, 19, 20, 21, 22, 23, 24] (by decide +kernel) (by decide +kernel)
set_option maxRecDepth 20000 in
theorem gX5_registeredAt_X5_isServer : GoodIn wsX5_registeredAt (wsV RX5 63 RX5 yX5_isServer wsX5_isServer) := goodIn_app (goodIn_of _ (by decide +kernel)) ggX5_registeredAt_X5_isServer
set_option maxRecDepth 20000 in
theorem ggX5_registeredAt_X5_listOf : GoodIn wsX5_registeredAt wsX5_listOf := goodIn_r _ [14, 7, 19, 20, 21, 22, 23, 24] (by decide +kernel) (by decide +kernel)
set_option maxRecDepth 20000 in
theorem gX5_registeredAt_X5_listOf : GoodIn wsX5_registeredAt (wsV RX5 45 RX5 yX5_listOf wsX5_listOf) := goodIn_app (goodIn_of _ (by decide +kernel)) ggX5_registeredAt_X5_listOf
set_option maxRecDepth 20000 in
theorem ggX5_registeredAt_X5_refuse : GoodIn wsX5_registeredAt wsX5_refuse := goodIn_r _ [18, 1, 19, 20, 21, 22, 23, 24] (by decide +kernel) (by decide +kernel)
set_option maxRecDepth 20000 in
theorem gX5_registeredAt_X5_refuse : GoodIn wsX5_registeredAt (wsV RX5 48 RX5 yX5_refuse wsX5_refuse) := goodIn_app (goodIn_of _ (by decide +kernel)) ggX5_registeredAt_X5_refuse
theorem dX5_registeredAt_0 : decode cX5_registeredAt 0 = .ok (.aload_n 0, 1) := by decide +kernel
theorem dX5_registeredAt_1 : decode cX5_registeredAt 1 = .ok (.iconst 0, 1) := by decide +kernel
theorem dX5_registeredAt_2 : decode cX5_registeredAt 2 = .ok (.putfield 19, 3) := by decide +kernel
theorem dX5_registeredAt_5 : decode cX5_registeredAt 5 = .ok (.aload_n 0, 1) := by decide +kernel
theorem dX5_registeredAt_6 : decode cX5_registeredAt 6 = .ok (.iload_n 1, 1) := by decide +kernel
theorem dX5_registeredAt_7 : decode cX5_registeredAt 7 = .ok (.invokevirtual 63, 3) := by decide +kernel
theorem dX5_registeredAt_10 : decode cX5_registeredAt 10 = .ok (.ifCond .eq 11, 3) := by decide +kernel
theorem dX5_registeredAt_13 : decode cX5_registeredAt 13 = .ok (.aload_n 0, 1) := by decide +kernel
theorem dX5_registeredAt_14 : decode cX5_registeredAt 14 = .ok (.iload_n 1, 1) := by decide +kernel
theorem dX5_registeredAt_15 : decode cX5_registeredAt 15 = .ok (.invokevirtual 45, 3) := by decide +kernel
theorem dX5_registeredAt_18 : decode cX5_registeredAt 18 = .ok (.goto 8, 3) := by decide +kernel
theorem dX5_registeredAt_21 : decode cX5_registeredAt 21 = .ok (.aload_n 0, 1) := by decide +kernel
theorem dX5_registeredAt_22 : decode cX5_registeredAt 22 = .ok (.iconst 1, 1) := by decide +kernel
theorem dX5_registeredAt_23 : decode cX5_registeredAt 23 = .ok (.invokevirtual 48, 3) := by decide +kernel
theorem dX5_registeredAt_26 : decode cX5_registeredAt 26 = .ok (.ireturn, 1) := by decide +kernel
set_option maxRecDepth 20000 in
theorem ggX5_idleCount_X5_isDispatcher : GoodIn wsX5_idleCount wsX5_isDispatcher := goodIn_r _ [7, 2, 8, 9, 6, 10, 15, 16, 17, 18, 19, 20] (by decide +kernel) (by decide +kernel)
set_option maxRecDepth 20000 in
theorem gX5_idleCount_X5_isDispatcher : GoodIn wsX5_idleCount (wsV RX5 58 RX5 yX5_isDispatcher wsX5_isDispatcher) := goodIn_app (goodIn_of _ (by decide +kernel)) ggX5_idleCount_X5_isDispatcher
set_option maxRecDepth 20000 in
theorem ggX5_idleCount_X5_refuse : GoodIn wsX5_idleCount wsX5_refuse := goodIn_r _ [14, 1, 15, 16, 17, 18, 19, 20] (by decide +kernel) (by decide +kernel)
set_option maxRecDepth 20000 in
theorem gX5_idleCount_X5_refuse : GoodIn wsX5_idleCount (wsV RX5 48 RX5 yX5_refuse wsX5_refuse) := goodIn_app (goodIn_of _ (by decide +kernel)) ggX5_idleCount_X5_refuse
theorem dX5_idleCount_0 : decode cX5_idleCount 0 = .ok (.aload_n 0, 1) := by decide +kernel
theorem dX5_idleCount_1 : decode cX5_idleCount 1 = .ok (.iconst 0, 1) := by decide +kernel
theorem dX5_idleCount_2 : decode cX5_idleCount 2 = .ok (.putfield 19, 3) := by decide +kernel
theorem dX5_idleCount_5 : decode cX5_idleCount 5 = .ok (.aload_n 0, 1) := by decide +kernel
theorem dX5_idleCount_6 : decode cX5_idleCount 6 = .ok (.iload_n 1, 1) := by decide +kernel
theorem dX5_idleCount_7 : decode cX5_idleCount 7 = .ok (.invokevirtual 58, 3) := by decide +kernel
theorem dX5_idleCount_10 : decode cX5_idleCount 10 = .ok (.ifCond .eq 15, 3) := by decide +kernel
theorem dX5_idleCount_13 : decode cX5_idleCount 13 = .ok (.aload_n 0, 1) := by decide +kernel
theorem dX5_idleCount_14 : decode cX5_idleCount 14 = .ok (.getfield 7, 3) := by decide +kernel
theorem dX5_idleCount_17 : decode cX5_idleCount 17 = .ok (.bipush 57, 2) := by decide +kernel
theorem dX5_idleCount_19 : decode cX5_idleCount 19 = .ok (.iload_n 1, 1) := by decide +kernel
theorem dX5_idleCount_20 : decode cX5_idleCount 20 = .ok (.iadd, 1) := by decide +kernel
theorem dX5_idleCount_21 : decode cX5_idleCount 21 = .ok (.iaload, 1) := by decide +kernel
theorem dX5_idleCount_22 : decode cX5_idleCount 22 = .ok (.goto 8, 3) := by decide +kernel
theorem dX5_idleCount_25 : decode cX5_idleCount 25 = .ok (.aload_n 0, 1) := by decide +kernel
theorem dX5_idleCount_26 : decode cX5_idleCount 26 = .ok (.iconst 1, 1) := by decide +kernel
theorem dX5_idleCount_27 : decode cX5_idleCount 27 = .ok (.invokevirtual 48, 3) := by decide +kernel
theorem dX5_idleCount_30 : decode cX5_idleCount 30 = .ok (.ireturn, 1) := by decide +kernel
set_option maxRecDepth 20000 in
theorem ggX5_idleAt_X5_isDispatcher : GoodIn wsX5_idleAt wsX5_isDispatcher := goodIn_r _ [7, 2, 8, 9, 6, 10, 15, 16, 17, 18, 19, 20] (by decide +kernel) (by decide +kernel)
set_option maxRecDepth 20000 in
theorem gX5_idleAt_X5_isDispatcher : GoodIn wsX5_idleAt (wsV RX5 58 RX5 yX5_isDispatcher wsX5_isDispatcher) := goodIn_app (goodIn_of _ (by decide +kernel)) ggX5_idleAt_X5_isDispatcher
set_option maxRecDepth 20000 in
theorem ggX5_idleAt_X5_refuse : GoodIn wsX5_idleAt wsX5_refuse := goodIn_r _ [14, 1, 15, 16, 17, 18, 19, 20] (by decide +kernel) (by decide +kernel)
set_option maxRecDepth 20000 in
theorem gX5_idleAt_X5_refuse : GoodIn wsX5_idleAt (wsV RX5 48 RX5 yX5_refuse wsX5_refuse) := goodIn_app (goodIn_of _ (by decide +kernel)) ggX5_idleAt_X5_refuse
set_option maxRecDepth 20000 in
theorem ggX5_idleAt_X5_in : GoodIn wsX5_idleAt wsX5_in := goodIn_r _ [10] (by decide +kernel) (by decide +kernel)
set_option maxRecDepth 20000 in
theorem gX5_idleAt_X5_in : GoodIn wsX5_idleAt (va_wsS RX5 23 yX5_in wsX5_in) := goodIn_app (goodIn_of _ (by decide +kernel)) ggX5_idleAt_X5_in
theorem dX5_idleAt_0 : decode cX5_idleAt 0 = .ok (.aload_n 0, 1) := by decide +kernel
theorem dX5_idleAt_1 : decode cX5_idleAt 1 = .ok (.iconst 0, 1) := by decide +kernel
theorem dX5_idleAt_2 : decode cX5_idleAt 2 = .ok (.putfield 19, 3) := by decide +kernel
theorem dX5_idleAt_5 : decode cX5_idleAt 5 = .ok (.aload_n 0, 1) := by decide +kernel
theorem dX5_idleAt_6 : decode cX5_idleAt 6 = .ok (.iload_n 1, 1) := by decide +kernel
theorem dX5_idleAt_7 : decode cX5_idleAt 7 = .ok (.invokevirtual 58, 3) := by decide +kernel
theorem dX5_idleAt_10 : decode cX5_idleAt 10 = .ok (.ifCond .ne 9, 3) := by decide +kernel
theorem dX5_idleAt_13 : decode cX5_idleAt 13 = .ok (.aload_n 0, 1) := by decide +kernel
theorem dX5_idleAt_14 : decode cX5_idleAt 14 = .ok (.iconst 1, 1) := by decide +kernel
theorem dX5_idleAt_15 : decode cX5_idleAt 15 = .ok (.invokevirtual 48, 3) := by decide +kernel
theorem dX5_idleAt_18 : decode cX5_idleAt 18 = .ok (.ireturn, 1) := by decide +kernel
theorem dX5_idleAt_19 : decode cX5_idleAt 19 = .ok (.iload_n 2, 1) := by decide +kernel
theorem dX5_idleAt_20 : decode cX5_idleAt 20 = .ok (.iconst 0, 1) := by decide +kernel
theorem dX5_idleAt_21 : decode cX5_idleAt 21 = .ok (.aload_n 0, 1) := by decide +kernel
theorem dX5_idleAt_22 : decode cX5_idleAt 22 = .ok (.getfield 7, 3) := by decide +kernel
theorem dX5_idleAt_25 : decode cX5_idleAt 25 = .ok (.bipush 57, 2) := by decide +kernel
theorem dX5_idleAt_27 : decode cX5_idleAt 27 = .ok (.iload_n 1, 1) := by decide +kernel
theorem dX5_idleAt_28 : decode cX5_idleAt 28 = .ok (.iadd, 1) := by decide +kernel
theorem dX5_idleAt_29 : decode cX5_idleAt 29 = .ok (.iaload, 1) := by decide +kernel
theorem dX5_idleAt_30 : decode cX5_idleAt 30 = .ok (.iconst 1, 1) := by decide +kernel
theorem dX5_idleAt_31 : decode cX5_idleAt 31 = .ok (.isub, 1) := by decide +kernel
theorem dX5_idleAt_32 : decode cX5_idleAt 32 = .ok (.invokestatic 23, 3) := by decide +kernel
theorem dX5_idleAt_35 : decode cX5_idleAt 35 = .ok (.ifCond .eq 20, 3) := by decide +kernel
theorem dX5_idleAt_38 : decode cX5_idleAt 38 = .ok (.aload_n 0, 1) := by decide +kernel
theorem dX5_idleAt_39 : decode cX5_idleAt 39 = .ok (.getfield 7, 3) := by decide +kernel
theorem dX5_idleAt_42 : decode cX5_idleAt 42 = .ok (.bipush 61, 2) := by decide +kernel
theorem dX5_idleAt_44 : decode cX5_idleAt 44 = .ok (.bipush 8, 2) := by decide +kernel
theorem dX5_idleAt_46 : decode cX5_idleAt 46 = .ok (.iload_n 1, 1) := by decide +kernel
theorem dX5_idleAt_47 : decode cX5_idleAt 47 = .ok (.imul, 1) := by decide +kernel
theorem dX5_idleAt_48 : decode cX5_idleAt 48 = .ok (.iadd, 1) := by decide +kernel
theorem dX5_idleAt_49 : decode cX5_idleAt 49 = .ok (.iload_n 2, 1) := by decide +kernel
theorem dX5_idleAt_50 : decode cX5_idleAt 50 = .ok (.iadd, 1) := by decide +kernel
theorem dX5_idleAt_51 : decode cX5_idleAt 51 = .ok (.iaload, 1) := by decide +kernel
theorem dX5_idleAt_52 : decode cX5_idleAt 52 = .ok (.goto 8, 3) := by decide +kernel
theorem dX5_idleAt_55 : decode cX5_idleAt 55 = .ok (.aload_n 0, 1) := by decide +kernel
theorem dX5_idleAt_56 : decode cX5_idleAt 56 = .ok (.iconst 2, 1) := by decide +kernel
theorem dX5_idleAt_57 : decode cX5_idleAt 57 = .ok (.invokevirtual 48, 3) := by decide +kernel
theorem dX5_idleAt_60 : decode cX5_idleAt 60 = .ok (.ireturn, 1) := by decide +kernel
set_option maxRecDepth 20000 in
theorem ggX5_knownLength_X5_isDispatcher : GoodIn wsX5_knownLength wsX5_isDispatcher := goodIn_r _ [7, 2, 8, 9, 6, 10, 19, 20, 21, 22, 23, 24] (by decide +kernel) (by decide +kernel)
set_option maxRecDepth 20000 in
theorem gX5_knownLength_X5_isDispatcher : GoodIn wsX5_knownLength (wsV RX5 58 RX5 yX5_isDispatcher wsX5_isDispatcher) := goodIn_app (goodIn_of _ (by decide +kernel)) ggX5_knownLength_X5_isDispatcher
set_option maxRecDepth 20000 in
theorem ggX5_knownLength_X5_isServer : GoodIn wsX5_knownLength wsX5_isServer := goodIn_r _ [14, 2, 8, 9, 6, 10, 19, 20, 21, 22, 23, 24] (by decide +kernel) (by decide +kernel)
set_option maxRecDepth 20000 in
theorem gX5_knownLength_X5_isServer : GoodIn wsX5_knownLength (wsV RX5 63 RX5 yX5_isServer wsX5_isServer) := goodIn_app (goodIn_of _ (by decide +kernel)) ggX5_knownLength_X5_isServer
set_option maxRecDepth 20000 in
theorem ggX5_knownLength_X5_refuse : GoodIn wsX5_knownLength wsX5_refuse := goodIn_r _ [18, 1, 19, 20, 21, 22, 23, 24] (by decide +kernel) (by decide +kernel)
set_option maxRecDepth 20000 in
theorem gX5_knownLength_X5_refuse : GoodIn wsX5_knownLength (wsV RX5 48 RX5 yX5_refuse wsX5_refuse) := goodIn_app (goodIn_of _ (by decide +kernel)) ggX5_knownLength_X5_refuse
theorem dX5_knownLength_0 : decode cX5_knownLength 0 = .ok (.aload_n 0, 1) := by decide +kernel
theorem dX5_knownLength_1 : decode cX5_knownLength 1 = .ok (.iconst 0, 1) := by decide +kernel
theorem dX5_knownLength_2 : decode cX5_knownLength 2 = .ok (.putfield 19, 3) := by decide +kernel
theorem dX5_knownLength_5 : decode cX5_knownLength 5 = .ok (.aload_n 0, 1) := by decide +kernel
theorem dX5_knownLength_6 : decode cX5_knownLength 6 = .ok (.iload_n 1, 1) := by decide +kernel
theorem dX5_knownLength_7 : decode cX5_knownLength 7 = .ok (.invokevirtual 58, 3) := by decide +kernel
theorem dX5_knownLength_10 : decode cX5_knownLength 10 = .ok (.ifCond .eq 28, 3) := by decide +kernel
theorem dX5_knownLength_13 : decode cX5_knownLength 13 = .ok (.aload_n 0, 1) := by decide +kernel
theorem dX5_knownLength_14 : decode cX5_knownLength 14 = .ok (.iload_n 2, 1) := by decide +kernel
theorem dX5_knownLength_15 : decode cX5_knownLength 15 = .ok (.invokevirtual 63, 3) := by decide +kernel
theorem dX5_knownLength_18 : decode cX5_knownLength 18 = .ok (.ifCond .eq 20, 3) := by decide +kernel
theorem dX5_knownLength_21 : decode cX5_knownLength 21 = .ok (.aload_n 0, 1) := by decide +kernel
theorem dX5_knownLength_22 : decode cX5_knownLength 22 = .ok (.getfield 7, 3) := by decide +kernel
theorem dX5_knownLength_25 : decode cX5_knownLength 25 = .ok (.bipush 25, 2) := by decide +kernel
theorem dX5_knownLength_27 : decode cX5_knownLength 27 = .ok (.bipush 8, 2) := by decide +kernel
theorem dX5_knownLength_29 : decode cX5_knownLength 29 = .ok (.iload_n 1, 1) := by decide +kernel
theorem dX5_knownLength_30 : decode cX5_knownLength 30 = .ok (.imul, 1) := by decide +kernel
theorem dX5_knownLength_31 : decode cX5_knownLength 31 = .ok (.iadd, 1) := by decide +kernel
theorem dX5_knownLength_32 : decode cX5_knownLength 32 = .ok (.iload_n 2, 1) := by decide +kernel
theorem dX5_knownLength_33 : decode cX5_knownLength 33 = .ok (.iadd, 1) := by decide +kernel
theorem dX5_knownLength_34 : decode cX5_knownLength 34 = .ok (.iaload, 1) := by decide +kernel
theorem dX5_knownLength_35 : decode cX5_knownLength 35 = .ok (.goto 8, 3) := by decide +kernel
theorem dX5_knownLength_38 : decode cX5_knownLength 38 = .ok (.aload_n 0, 1) := by decide +kernel
theorem dX5_knownLength_39 : decode cX5_knownLength 39 = .ok (.iconst 1, 1) := by decide +kernel
theorem dX5_knownLength_40 : decode cX5_knownLength 40 = .ok (.invokevirtual 48, 3) := by decide +kernel
theorem dX5_knownLength_43 : decode cX5_knownLength 43 = .ok (.ireturn, 1) := by decide +kernel
set_option maxRecDepth 20000 in
theorem ggX5_sumOfLengths_X5_lengthOf : GoodIn wsX5_sumOfLengths wsX5_lengthOf := goodIn_r _ [6, 7, 8, 9, 10, 5, 11, 12, 13, 14, 15, 16, 17] (by decide +kernel) (by decide +kernel)
set_option maxRecDepth 20000 in
theorem gX5_sumOfLengths_X5_lengthOf : GoodIn wsX5_sumOfLengths (wsV RX5 69 RX5 yX5_lengthOf wsX5_lengthOf) := goodIn_app (goodIn_of _ (by decide +kernel)) ggX5_sumOfLengths_X5_lengthOf
theorem dX5_sumOfLengths_0 : decode cX5_sumOfLengths 0 = .ok (.iconst 0, 1) := by decide +kernel
theorem dX5_sumOfLengths_1 : decode cX5_sumOfLengths 1 = .ok (.istore_n 2, 1) := by decide +kernel
theorem dX5_sumOfLengths_2 : decode cX5_sumOfLengths 2 = .ok (.iconst 0, 1) := by decide +kernel
theorem dX5_sumOfLengths_3 : decode cX5_sumOfLengths 3 = .ok (.istore_n 3, 1) := by decide +kernel
theorem dX5_sumOfLengths_4 : decode cX5_sumOfLengths 4 = .ok (.iload_n 3, 1) := by decide +kernel
theorem dX5_sumOfLengths_5 : decode cX5_sumOfLengths 5 = .ok (.iload_n 1, 1) := by decide +kernel
theorem dX5_sumOfLengths_6 : decode cX5_sumOfLengths 6 = .ok (.if_icmp .ge 22, 3) := by decide +kernel
theorem dX5_sumOfLengths_9 : decode cX5_sumOfLengths 9 = .ok (.iload_n 2, 1) := by decide +kernel
theorem dX5_sumOfLengths_10 : decode cX5_sumOfLengths 10 = .ok (.aload_n 0, 1) := by decide +kernel
theorem dX5_sumOfLengths_11 : decode cX5_sumOfLengths 11 = .ok (.aload_n 0, 1) := by decide +kernel
theorem dX5_sumOfLengths_12 : decode cX5_sumOfLengths 12 = .ok (.getfield 16, 3) := by decide +kernel
theorem dX5_sumOfLengths_15 : decode cX5_sumOfLengths 15 = .ok (.iload_n 3, 1) := by decide +kernel
theorem dX5_sumOfLengths_16 : decode cX5_sumOfLengths 16 = .ok (.iaload, 1) := by decide +kernel
theorem dX5_sumOfLengths_17 : decode cX5_sumOfLengths 17 = .ok (.invokevirtual 69, 3) := by decide +kernel
theorem dX5_sumOfLengths_20 : decode cX5_sumOfLengths 20 = .ok (.iadd, 1) := by decide +kernel
theorem dX5_sumOfLengths_21 : decode cX5_sumOfLengths 21 = .ok (.istore_n 2, 1) := by decide +kernel
theorem dX5_sumOfLengths_22 : decode cX5_sumOfLengths 22 = .ok (.iinc 3 1, 3) := by decide +kernel
theorem dX5_sumOfLengths_25 : decode cX5_sumOfLengths 25 = .ok (.goto (-21), 3) := by decide +kernel
theorem dX5_sumOfLengths_28 : decode cX5_sumOfLengths 28 = .ok (.iload_n 2, 1) := by decide +kernel
theorem dX5_sumOfLengths_29 : decode cX5_sumOfLengths 29 = .ok (.ireturn, 1) := by decide +kernel
set_option maxRecDepth 20000 in
theorem ggX5_sumOfLesser_X5_lengthOf : GoodIn wsX5_sumOfLesser wsX5_lengthOf := goodIn_r _ [6, 7, 8, 9, 10, 5, 11, 12, 13, 14, 15, 16, 17] (by decide +kernel) (by decide +kernel)
set_option maxRecDepth 20000 in
theorem gX5_sumOfLesser_X5_lengthOf : GoodIn wsX5_sumOfLesser (wsV RX5 69 RX5 yX5_lengthOf wsX5_lengthOf) := goodIn_app (goodIn_of _ (by decide +kernel)) ggX5_sumOfLesser_X5_lengthOf
theorem dX5_sumOfLesser_0 : decode cX5_sumOfLesser 0 = .ok (.iconst 0, 1) := by decide +kernel
theorem dX5_sumOfLesser_1 : decode cX5_sumOfLesser 1 = .ok (.istore_n 2, 1) := by decide +kernel
theorem dX5_sumOfLesser_2 : decode cX5_sumOfLesser 2 = .ok (.iconst 0, 1) := by decide +kernel
theorem dX5_sumOfLesser_3 : decode cX5_sumOfLesser 3 = .ok (.istore_n 3, 1) := by decide +kernel
theorem dX5_sumOfLesser_4 : decode cX5_sumOfLesser 4 = .ok (.iload_n 3, 1) := by decide +kernel
theorem dX5_sumOfLesser_5 : decode cX5_sumOfLesser 5 = .ok (.iload_n 1, 1) := by decide +kernel
theorem dX5_sumOfLesser_6 : decode cX5_sumOfLesser 6 = .ok (.if_icmp .ge 66, 3) := by decide +kernel
theorem dX5_sumOfLesser_9 : decode cX5_sumOfLesser 9 = .ok (.iconst 0, 1) := by decide +kernel
theorem dX5_sumOfLesser_10 : decode cX5_sumOfLesser 10 = .ok (.istore 4, 2) := by decide +kernel
theorem dX5_sumOfLesser_12 : decode cX5_sumOfLesser 12 = .ok (.iload 4, 2) := by decide +kernel
theorem dX5_sumOfLesser_14 : decode cX5_sumOfLesser 14 = .ok (.iload_n 1, 1) := by decide +kernel
theorem dX5_sumOfLesser_15 : decode cX5_sumOfLesser 15 = .ok (.if_icmp .ge 51, 3) := by decide +kernel
theorem dX5_sumOfLesser_18 : decode cX5_sumOfLesser 18 = .ok (.aload_n 0, 1) := by decide +kernel
theorem dX5_sumOfLesser_19 : decode cX5_sumOfLesser 19 = .ok (.aload_n 0, 1) := by decide +kernel
theorem dX5_sumOfLesser_20 : decode cX5_sumOfLesser 20 = .ok (.getfield 16, 3) := by decide +kernel
theorem dX5_sumOfLesser_23 : decode cX5_sumOfLesser 23 = .ok (.iload_n 3, 1) := by decide +kernel
theorem dX5_sumOfLesser_24 : decode cX5_sumOfLesser 24 = .ok (.iaload, 1) := by decide +kernel
theorem dX5_sumOfLesser_25 : decode cX5_sumOfLesser 25 = .ok (.invokevirtual 69, 3) := by decide +kernel
theorem dX5_sumOfLesser_28 : decode cX5_sumOfLesser 28 = .ok (.istore 5, 2) := by decide +kernel
theorem dX5_sumOfLesser_30 : decode cX5_sumOfLesser 30 = .ok (.aload_n 0, 1) := by decide +kernel
theorem dX5_sumOfLesser_31 : decode cX5_sumOfLesser 31 = .ok (.aload_n 0, 1) := by decide +kernel
theorem dX5_sumOfLesser_32 : decode cX5_sumOfLesser 32 = .ok (.getfield 16, 3) := by decide +kernel
theorem dX5_sumOfLesser_35 : decode cX5_sumOfLesser 35 = .ok (.iload 4, 2) := by decide +kernel
theorem dX5_sumOfLesser_37 : decode cX5_sumOfLesser 37 = .ok (.iaload, 1) := by decide +kernel
theorem dX5_sumOfLesser_38 : decode cX5_sumOfLesser 38 = .ok (.invokevirtual 69, 3) := by decide +kernel
theorem dX5_sumOfLesser_41 : decode cX5_sumOfLesser 41 = .ok (.istore 6, 2) := by decide +kernel
theorem dX5_sumOfLesser_43 : decode cX5_sumOfLesser 43 = .ok (.iload_n 2, 1) := by decide +kernel
theorem dX5_sumOfLesser_44 : decode cX5_sumOfLesser 44 = .ok (.iload 6, 2) := by decide +kernel
theorem dX5_sumOfLesser_46 : decode cX5_sumOfLesser 46 = .ok (.iload 5, 2) := by decide +kernel
theorem dX5_sumOfLesser_48 : decode cX5_sumOfLesser 48 = .ok (.if_icmp .ge 8, 3) := by decide +kernel
theorem dX5_sumOfLesser_51 : decode cX5_sumOfLesser 51 = .ok (.iload 6, 2) := by decide +kernel
theorem dX5_sumOfLesser_53 : decode cX5_sumOfLesser 53 = .ok (.goto 5, 3) := by decide +kernel
theorem dX5_sumOfLesser_56 : decode cX5_sumOfLesser 56 = .ok (.iload 5, 2) := by decide +kernel
theorem dX5_sumOfLesser_58 : decode cX5_sumOfLesser 58 = .ok (.iadd, 1) := by decide +kernel
theorem dX5_sumOfLesser_59 : decode cX5_sumOfLesser 59 = .ok (.istore_n 2, 1) := by decide +kernel
theorem dX5_sumOfLesser_60 : decode cX5_sumOfLesser 60 = .ok (.iinc 4 1, 3) := by decide +kernel
theorem dX5_sumOfLesser_63 : decode cX5_sumOfLesser 63 = .ok (.goto (-51), 3) := by decide +kernel
theorem dX5_sumOfLesser_66 : decode cX5_sumOfLesser 66 = .ok (.iinc 3 1, 3) := by decide +kernel
theorem dX5_sumOfLesser_69 : decode cX5_sumOfLesser 69 = .ok (.goto (-65), 3) := by decide +kernel
theorem dX5_sumOfLesser_72 : decode cX5_sumOfLesser 72 = .ok (.iload_n 2, 1) := by decide +kernel
theorem dX5_sumOfLesser_73 : decode cX5_sumOfLesser 73 = .ok (.ireturn, 1) := by decide +kernel
theorem dX5_common_0 : decode cX5_common 0 = .ok (.iload_n 0, 1) := by decide +kernel
theorem dX5_common_1 : decode cX5_common 1 = .ok (.istore_n 2, 1) := by decide +kernel
theorem dX5_common_2 : decode cX5_common 2 = .ok (.iload_n 1, 1) := by decide +kernel
theorem dX5_common_3 : decode cX5_common 3 = .ok (.istore_n 3, 1) := by decide +kernel
theorem dX5_common_4 : decode cX5_common 4 = .ok (.iload_n 3, 1) := by decide +kernel
theorem dX5_common_5 : decode cX5_common 5 = .ok (.ifCond .eq 16, 3) := by decide +kernel
theorem dX5_common_8 : decode cX5_common 8 = .ok (.iload_n 2, 1) := by decide +kernel
theorem dX5_common_9 : decode cX5_common 9 = .ok (.iload_n 3, 1) := by decide +kernel
theorem dX5_common_10 : decode cX5_common 10 = .ok (.irem, 1) := by decide +kernel
theorem dX5_common_11 : decode cX5_common 11 = .ok (.istore 4, 2) := by decide +kernel
theorem dX5_common_13 : decode cX5_common 13 = .ok (.iload_n 3, 1) := by decide +kernel
theorem dX5_common_14 : decode cX5_common 14 = .ok (.istore_n 2, 1) := by decide +kernel
theorem dX5_common_15 : decode cX5_common 15 = .ok (.iload 4, 2) := by decide +kernel
theorem dX5_common_17 : decode cX5_common 17 = .ok (.istore_n 3, 1) := by decide +kernel
theorem dX5_common_18 : decode cX5_common 18 = .ok (.goto (-14), 3) := by decide +kernel
theorem dX5_common_21 : decode cX5_common 21 = .ok (.iload_n 2, 1) := by decide +kernel
theorem dX5_common_22 : decode cX5_common 22 = .ok (.ireturn, 1) := by decide +kernel
set_option maxRecDepth 20000 in
theorem ggX5_expected_X5_sumOfLengths : GoodIn wsX5_expected wsX5_sumOfLengths := goodIn_r _ [6, 7, 8, 9, 10, 5, 11, 1, 12, 13, 14, 15, 31, 32, 33, 34, 35, 36] (by decide +kernel) (by decide +kernel)
set_option maxRecDepth 20000 in
theorem gX5_expected_X5_sumOfLengths : GoodIn wsX5_expected (wsV RX5 107 RX5 yX5_sumOfLengths wsX5_sumOfLengths) := goodIn_app (goodIn_of _ (by decide +kernel)) ggX5_expected_X5_sumOfLengths
set_option maxRecDepth 20000 in
theorem ggX5_expected_X5_sumOfLesser : GoodIn wsX5_expected wsX5_sumOfLesser := goodIn_r _ [19, 7, 8, 9, 10, 5, 11, 1, 12, 13, 14, 15, 31, 32, 33, 34, 35, 36] (by decide +kernel) (by decide +kernel)
set_option maxRecDepth 20000 in
theorem gX5_expected_X5_sumOfLesser : GoodIn wsX5_expected (wsV RX5 110 RX5 yX5_sumOfLesser wsX5_sumOfLesser) := goodIn_app (goodIn_of _ (by decide +kernel)) ggX5_expected_X5_sumOfLesser
set_option maxRecDepth 20000 in
theorem ggX5_expected_X5_lengthOf : GoodIn wsX5_expected wsX5_lengthOf := goodIn_r _ [11, 1, 12, 13, 14, 5, 15, 31, 32, 33, 34, 35, 36] (by decide +kernel) (by decide +kernel)
set_option maxRecDepth 20000 in
theorem gX5_expected_X5_lengthOf : GoodIn wsX5_expected (wsV RX5 69 RX5 yX5_lengthOf wsX5_lengthOf) := goodIn_app (goodIn_of _ (by decide +kernel)) ggX5_expected_X5_lengthOf
set_option maxRecDepth 20000 in
theorem ggX5_expected_X5_nextInTurn : GoodIn wsX5_expected wsX5_nextInTurn := goodIn_r _ [23, 7, 1, 31, 32, 33, 34, 35, 36] (by decide +kernel) (by decide +kernel)
set_option maxRecDepth 20000 in
theorem gX5_expected_X5_nextInTurn : GoodIn wsX5_expected (wsV RX5 75 RX5 yX5_nextInTurn wsX5_nextInTurn) := goodIn_app (goodIn_of _ (by decide +kernel)) ggX5_expected_X5_nextInTurn
set_option maxRecDepth 20000 in
theorem ggX5_expected_X5_leastKnown : GoodIn wsX5_expected wsX5_leastKnown := goodIn_r _ [27, 7, 1, 31, 32, 33, 34, 35, 36] (by decide +kernel) (by decide +kernel)
set_option maxRecDepth 20000 in
theorem gX5_expected_X5_leastKnown : GoodIn wsX5_expected (wsV RX5 82 RX5 yX5_leastKnown wsX5_leastKnown) := goodIn_app (goodIn_of _ (by decide +kernel)) ggX5_expected_X5_leastKnown
set_option maxRecDepth 20000 in
theorem ggX5_expected_X5_common : GoodIn wsX5_expected wsX5_common := goodIn_r _ [30] (by decide +kernel) (by decide +kernel)
set_option maxRecDepth 20000 in
theorem gX5_expected_X5_common : GoodIn wsX5_expected (va_wsS RX5 113 yX5_common wsX5_common) := goodIn_app (goodIn_of _ (by decide +kernel)) ggX5_expected_X5_common
theorem dX5_expected_0 : decode cX5_expected 0 = .ok (.aload_n 0, 1) := by decide +kernel
theorem dX5_expected_1 : decode cX5_expected 1 = .ok (.getfield 7, 3) := by decide +kernel
theorem dX5_expected_4 : decode cX5_expected 4 = .ok (.bipush 17, 2) := by decide +kernel
theorem dX5_expected_6 : decode cX5_expected 6 = .ok (.iload_n 1, 1) := by decide +kernel
theorem dX5_expected_7 : decode cX5_expected 7 = .ok (.iadd, 1) := by decide +kernel
theorem dX5_expected_8 : decode cX5_expected 8 = .ok (.iaload, 1) := by decide +kernel
theorem dX5_expected_9 : decode cX5_expected 9 = .ok (.istore 4, 2) := by decide +kernel
theorem dX5_expected_11 : decode cX5_expected 11 = .ok (.iconst 0, 1) := by decide +kernel
theorem dX5_expected_12 : decode cX5_expected 12 = .ok (.istore 5, 2) := by decide +kernel
theorem dX5_expected_14 : decode cX5_expected 14 = .ok (.iconst 1, 1) := by decide +kernel
theorem dX5_expected_15 : decode cX5_expected 15 = .ok (.istore 6, 2) := by decide +kernel
theorem dX5_expected_17 : decode cX5_expected 17 = .ok (.iload 4, 2) := by decide +kernel
theorem dX5_expected_19 : decode cX5_expected 19 = .ok (.ifCond .eq 21, 3) := by decide +kernel
theorem dX5_expected_22 : decode cX5_expected 22 = .ok (.iload 4, 2) := by decide +kernel
theorem dX5_expected_24 : decode cX5_expected 24 = .ok (.iconst 3, 1) := by decide +kernel
theorem dX5_expected_25 : decode cX5_expected 25 = .ok (.if_icmp .ne 28, 3) := by decide +kernel
theorem dX5_expected_28 : decode cX5_expected 28 = .ok (.aload_n 0, 1) := by decide +kernel
theorem dX5_expected_29 : decode cX5_expected 29 = .ok (.getfield 7, 3) := by decide +kernel
theorem dX5_expected_32 : decode cX5_expected 32 = .ok (.bipush 57, 2) := by decide +kernel
theorem dX5_expected_34 : decode cX5_expected 34 = .ok (.iload_n 1, 1) := by decide +kernel
theorem dX5_expected_35 : decode cX5_expected 35 = .ok (.iadd, 1) := by decide +kernel
theorem dX5_expected_36 : decode cX5_expected 36 = .ok (.iaload, 1) := by decide +kernel
theorem dX5_expected_37 : decode cX5_expected 37 = .ok (.ifCond .ne 16, 3) := by decide +kernel
theorem dX5_expected_40 : decode cX5_expected 40 = .ok (.aload_n 0, 1) := by decide +kernel
theorem dX5_expected_41 : decode cX5_expected 41 = .ok (.iload_n 2, 1) := by decide +kernel
theorem dX5_expected_42 : decode cX5_expected 42 = .ok (.invokevirtual 107, 3) := by decide +kernel
theorem dX5_expected_45 : decode cX5_expected 45 = .ok (.istore 5, 2) := by decide +kernel
theorem dX5_expected_47 : decode cX5_expected 47 = .ok (.iload_n 2, 1) := by decide +kernel
theorem dX5_expected_48 : decode cX5_expected 48 = .ok (.istore 6, 2) := by decide +kernel
theorem dX5_expected_50 : decode cX5_expected 50 = .ok (.goto 78, 3) := by decide +kernel
theorem dX5_expected_53 : decode cX5_expected 53 = .ok (.iload 4, 2) := by decide +kernel
theorem dX5_expected_55 : decode cX5_expected 55 = .ok (.iconst 2, 1) := by decide +kernel
theorem dX5_expected_56 : decode cX5_expected 56 = .ok (.if_icmp .ne 18, 3) := by decide +kernel
theorem dX5_expected_59 : decode cX5_expected 59 = .ok (.aload_n 0, 1) := by decide +kernel
theorem dX5_expected_60 : decode cX5_expected 60 = .ok (.iload_n 2, 1) := by decide +kernel
theorem dX5_expected_61 : decode cX5_expected 61 = .ok (.invokevirtual 110, 3) := by decide +kernel
theorem dX5_expected_64 : decode cX5_expected 64 = .ok (.istore 5, 2) := by decide +kernel
theorem dX5_expected_66 : decode cX5_expected 66 = .ok (.iload_n 2, 1) := by decide +kernel
theorem dX5_expected_67 : decode cX5_expected 67 = .ok (.iload_n 2, 1) := by decide +kernel
theorem dX5_expected_68 : decode cX5_expected 68 = .ok (.imul, 1) := by decide +kernel
theorem dX5_expected_69 : decode cX5_expected 69 = .ok (.istore 6, 2) := by decide +kernel
theorem dX5_expected_71 : decode cX5_expected 71 = .ok (.goto 57, 3) := by decide +kernel
theorem dX5_expected_74 : decode cX5_expected 74 = .ok (.iload 4, 2) := by decide +kernel
theorem dX5_expected_76 : decode cX5_expected 76 = .ok (.iconst 3, 1) := by decide +kernel
theorem dX5_expected_77 : decode cX5_expected 77 = .ok (.if_icmp .ne 24, 3) := by decide +kernel
theorem dX5_expected_80 : decode cX5_expected 80 = .ok (.aload_n 0, 1) := by decide +kernel
theorem dX5_expected_81 : decode cX5_expected 81 = .ok (.aload_n 0, 1) := by decide +kernel
theorem dX5_expected_82 : decode cX5_expected 82 = .ok (.getfield 7, 3) := by decide +kernel
theorem dX5_expected_85 : decode cX5_expected 85 = .ok (.bipush 61, 2) := by decide +kernel
theorem dX5_expected_87 : decode cX5_expected 87 = .ok (.bipush 8, 2) := by decide +kernel
theorem dX5_expected_89 : decode cX5_expected 89 = .ok (.iload_n 1, 1) := by decide +kernel
theorem dX5_expected_90 : decode cX5_expected 90 = .ok (.imul, 1) := by decide +kernel
theorem dX5_expected_91 : decode cX5_expected 91 = .ok (.iadd, 1) := by decide +kernel
theorem dX5_expected_92 : decode cX5_expected 92 = .ok (.iaload, 1) := by decide +kernel
theorem dX5_expected_93 : decode cX5_expected 93 = .ok (.invokevirtual 69, 3) := by decide +kernel
theorem dX5_expected_96 : decode cX5_expected 96 = .ok (.istore 5, 2) := by decide +kernel
theorem dX5_expected_98 : decode cX5_expected 98 = .ok (.goto 30, 3) := by decide +kernel
theorem dX5_expected_101 : decode cX5_expected 101 = .ok (.aload_n 0, 1) := by decide +kernel
theorem dX5_expected_102 : decode cX5_expected 102 = .ok (.iload 4, 2) := by decide +kernel
theorem dX5_expected_104 : decode cX5_expected 104 = .ok (.iconst 1, 1) := by decide +kernel
theorem dX5_expected_105 : decode cX5_expected 105 = .ok (.if_icmp .ne 12, 3) := by decide +kernel
theorem dX5_expected_108 : decode cX5_expected 108 = .ok (.aload_n 0, 1) := by decide +kernel
theorem dX5_expected_109 : decode cX5_expected 109 = .ok (.iload_n 1, 1) := by decide +kernel
theorem dX5_expected_110 : decode cX5_expected 110 = .ok (.iload_n 2, 1) := by decide +kernel
theorem dX5_expected_111 : decode cX5_expected 111 = .ok (.invokevirtual 75, 3) := by decide +kernel
theorem dX5_expected_114 : decode cX5_expected 114 = .ok (.goto 9, 3) := by decide +kernel
theorem dX5_expected_117 : decode cX5_expected 117 = .ok (.aload_n 0, 1) := by decide +kernel
theorem dX5_expected_118 : decode cX5_expected 118 = .ok (.iload_n 1, 1) := by decide +kernel
theorem dX5_expected_119 : decode cX5_expected 119 = .ok (.iload_n 2, 1) := by decide +kernel
theorem dX5_expected_120 : decode cX5_expected 120 = .ok (.invokevirtual 82, 3) := by decide +kernel
theorem dX5_expected_123 : decode cX5_expected 123 = .ok (.invokevirtual 69, 3) := by decide +kernel
theorem dX5_expected_126 : decode cX5_expected 126 = .ok (.istore 5, 2) := by decide +kernel
theorem dX5_expected_128 : decode cX5_expected 128 = .ok (.iload 5, 2) := by decide +kernel
theorem dX5_expected_130 : decode cX5_expected 130 = .ok (.iload 6, 2) := by decide +kernel
theorem dX5_expected_132 : decode cX5_expected 132 = .ok (.invokestatic 113, 3) := by decide +kernel
theorem dX5_expected_135 : decode cX5_expected 135 = .ok (.istore 7, 2) := by decide +kernel
theorem dX5_expected_137 : decode cX5_expected 137 = .ok (.iload_n 3, 1) := by decide +kernel
theorem dX5_expected_138 : decode cX5_expected 138 = .ok (.ifCond .ne 11, 3) := by decide +kernel
theorem dX5_expected_141 : decode cX5_expected 141 = .ok (.iload 5, 2) := by decide +kernel
theorem dX5_expected_143 : decode cX5_expected 143 = .ok (.iload 7, 2) := by decide +kernel
theorem dX5_expected_145 : decode cX5_expected 145 = .ok (.idiv, 1) := by decide +kernel
theorem dX5_expected_146 : decode cX5_expected 146 = .ok (.goto 8, 3) := by decide +kernel
theorem dX5_expected_149 : decode cX5_expected 149 = .ok (.iload 6, 2) := by decide +kernel
theorem dX5_expected_151 : decode cX5_expected 151 = .ok (.iload 7, 2) := by decide +kernel
theorem dX5_expected_153 : decode cX5_expected 153 = .ok (.idiv, 1) := by decide +kernel
theorem dX5_expected_154 : decode cX5_expected 154 = .ok (.ireturn, 1) := by decide +kernel
set_option maxRecDepth 20000 in
theorem ggX5_expectedLength_X5_isDispatcher : GoodIn wsX5_expectedLength wsX5_isDispatcher := goodIn_r _ [6, 7, 8, 9, 5, 10, 55, 56, 57, 58, 59, 60] (by decide +kernel) (by decide +kernel)
set_option maxRecDepth 20000 in
theorem gX5_expectedLength_X5_isDispatcher : GoodIn wsX5_expectedLength (wsV RX5 58 RX5 yX5_isDispatcher wsX5_isDispatcher) := goodIn_app (goodIn_of _ (by decide +kernel)) ggX5_expectedLength_X5_isDispatcher
set_option maxRecDepth 20000 in
theorem ggX5_expectedLength_X5_in : GoodIn wsX5_expectedLength wsX5_in := goodIn_r _ [10] (by decide +kernel) (by decide +kernel)
set_option maxRecDepth 20000 in
theorem gX5_expectedLength_X5_in : GoodIn wsX5_expectedLength (va_wsS RX5 23 yX5_in wsX5_in) := goodIn_app (goodIn_of _ (by decide +kernel)) ggX5_expectedLength_X5_in
set_option maxRecDepth 20000 in
theorem ggX5_expectedLength_X5_refuse : GoodIn wsX5_expectedLength wsX5_refuse := goodIn_r _ [14, 1, 55, 56, 57, 58, 59, 60] (by decide +kernel) (by decide +kernel)
set_option maxRecDepth 20000 in
theorem gX5_expectedLength_X5_refuse : GoodIn wsX5_expectedLength (wsV RX5 48 RX5 yX5_refuse wsX5_refuse) := goodIn_app (goodIn_of _ (by decide +kernel)) ggX5_expectedLength_X5_refuse
set_option maxRecDepth 20000 in
theorem ggX5_expectedLength_X5_findCandidates : GoodIn wsX5_expectedLength wsX5_findCandidates := goodIn_r _ [18, 7, 19, 20, 21, 22, 5, 23, 55, 56, 57, 58, 59, 60] (by decide +kernel) (by decide +kernel)
set_option maxRecDepth 20000 in
theorem gX5_expectedLength_X5_findCandidates : GoodIn wsX5_expectedLength (wsV RX5 85 RX5 yX5_findCandidates wsX5_findCandidates) := goodIn_app (goodIn_of _ (by decide +kernel)) ggX5_expectedLength_X5_findCandidates
set_option maxRecDepth 20000 in
theorem ggX5_expectedLength_X5_expected : GoodIn wsX5_expectedLength wsX5_expected := goodIn_r _ [27, 7, 28, 29, 30, 5, 31, 19, 32, 33, 34, 35, 36, 37, 38, 39, 40, 41, 42, 43, 44, 45, 46, 47, 48, 49, 50, 51, 52, 53, 54, 55, 56, 57, 58, 59, 60] (by decide +kernel) (by decide +kernel)
set_option maxRecDepth 20000 in
theorem gX5_expectedLength_X5_expected : GoodIn wsX5_expectedLength (wsV RX5 116 RX5 yX5_expected wsX5_expected) := goodIn_app (goodIn_of _ (by decide +kernel)) ggX5_expectedLength_X5_expected
theorem dX5_expectedLength_0 : decode cX5_expectedLength 0 = .ok (.aload_n 0, 1) := by decide +kernel
theorem dX5_expectedLength_1 : decode cX5_expectedLength 1 = .ok (.iconst 0, 1) := by decide +kernel
theorem dX5_expectedLength_2 : decode cX5_expectedLength 2 = .ok (.putfield 19, 3) := by decide +kernel
theorem dX5_expectedLength_5 : decode cX5_expectedLength 5 = .ok (.aload_n 0, 1) := by decide +kernel
theorem dX5_expectedLength_6 : decode cX5_expectedLength 6 = .ok (.iload_n 1, 1) := by decide +kernel
theorem dX5_expectedLength_7 : decode cX5_expectedLength 7 = .ok (.invokevirtual 58, 3) := by decide +kernel
theorem dX5_expectedLength_10 : decode cX5_expectedLength 10 = .ok (.ifCond .eq 12, 3) := by decide +kernel
theorem dX5_expectedLength_13 : decode cX5_expectedLength 13 = .ok (.iload_n 2, 1) := by decide +kernel
theorem dX5_expectedLength_14 : decode cX5_expectedLength 14 = .ok (.iconst 0, 1) := by decide +kernel
theorem dX5_expectedLength_15 : decode cX5_expectedLength 15 = .ok (.iconst 1, 1) := by decide +kernel
theorem dX5_expectedLength_16 : decode cX5_expectedLength 16 = .ok (.invokestatic 23, 3) := by decide +kernel
theorem dX5_expectedLength_19 : decode cX5_expectedLength 19 = .ok (.ifCond .ne 9, 3) := by decide +kernel
theorem dX5_expectedLength_22 : decode cX5_expectedLength 22 = .ok (.aload_n 0, 1) := by decide +kernel
theorem dX5_expectedLength_23 : decode cX5_expectedLength 23 = .ok (.iconst 1, 1) := by decide +kernel
theorem dX5_expectedLength_24 : decode cX5_expectedLength 24 = .ok (.invokevirtual 48, 3) := by decide +kernel
theorem dX5_expectedLength_27 : decode cX5_expectedLength 27 = .ok (.ireturn, 1) := by decide +kernel
theorem dX5_expectedLength_28 : decode cX5_expectedLength 28 = .ok (.aload_n 0, 1) := by decide +kernel
theorem dX5_expectedLength_29 : decode cX5_expectedLength 29 = .ok (.invokevirtual 85, 3) := by decide +kernel
theorem dX5_expectedLength_32 : decode cX5_expectedLength 32 = .ok (.istore_n 3, 1) := by decide +kernel
theorem dX5_expectedLength_33 : decode cX5_expectedLength 33 = .ok (.iload_n 3, 1) := by decide +kernel
theorem dX5_expectedLength_34 : decode cX5_expectedLength 34 = .ok (.ifCond .ne 11, 3) := by decide +kernel
theorem dX5_expectedLength_37 : decode cX5_expectedLength 37 = .ok (.aload_n 0, 1) := by decide +kernel
theorem dX5_expectedLength_38 : decode cX5_expectedLength 38 = .ok (.iconst 2, 1) := by decide +kernel
theorem dX5_expectedLength_39 : decode cX5_expectedLength 39 = .ok (.invokevirtual 48, 3) := by decide +kernel
theorem dX5_expectedLength_42 : decode cX5_expectedLength 42 = .ok (.goto 10, 3) := by decide +kernel
theorem dX5_expectedLength_45 : decode cX5_expectedLength 45 = .ok (.aload_n 0, 1) := by decide +kernel
theorem dX5_expectedLength_46 : decode cX5_expectedLength 46 = .ok (.iload_n 1, 1) := by decide +kernel
theorem dX5_expectedLength_47 : decode cX5_expectedLength 47 = .ok (.iload_n 3, 1) := by decide +kernel
theorem dX5_expectedLength_48 : decode cX5_expectedLength 48 = .ok (.iload_n 2, 1) := by decide +kernel
theorem dX5_expectedLength_49 : decode cX5_expectedLength 49 = .ok (.invokevirtual 116, 3) := by decide +kernel
theorem dX5_expectedLength_52 : decode cX5_expectedLength 52 = .ok (.ireturn, 1) := by decide +kernel
theorem dX5_submitted_0 : decode cX5_submitted 0 = .ok (.aload_n 0, 1) := by decide +kernel
theorem dX5_submitted_1 : decode cX5_submitted 1 = .ok (.iconst 0, 1) := by decide +kernel
theorem dX5_submitted_2 : decode cX5_submitted 2 = .ok (.putfield 19, 3) := by decide +kernel
theorem dX5_submitted_5 : decode cX5_submitted 5 = .ok (.aload_n 0, 1) := by decide +kernel
theorem dX5_submitted_6 : decode cX5_submitted 6 = .ok (.getfield 7, 3) := by decide +kernel
theorem dX5_submitted_9 : decode cX5_submitted 9 = .ok (.bipush 6, 2) := by decide +kernel
theorem dX5_submitted_11 : decode cX5_submitted 11 = .ok (.iaload, 1) := by decide +kernel
theorem dX5_submitted_12 : decode cX5_submitted 12 = .ok (.ireturn, 1) := by decide +kernel
theorem dX5_finished_0 : decode cX5_finished 0 = .ok (.aload_n 0, 1) := by decide +kernel
theorem dX5_finished_1 : decode cX5_finished 1 = .ok (.iconst 0, 1) := by decide +kernel
theorem dX5_finished_2 : decode cX5_finished 2 = .ok (.putfield 19, 3) := by decide +kernel
theorem dX5_finished_5 : decode cX5_finished 5 = .ok (.aload_n 0, 1) := by decide +kernel
theorem dX5_finished_6 : decode cX5_finished 6 = .ok (.getfield 7, 3) := by decide +kernel
theorem dX5_finished_9 : decode cX5_finished 9 = .ok (.bipush 7, 2) := by decide +kernel
theorem dX5_finished_11 : decode cX5_finished 11 = .ok (.iaload, 1) := by decide +kernel
theorem dX5_finished_12 : decode cX5_finished 12 = .ok (.ireturn, 1) := by decide +kernel
set_option maxRecDepth 20000 in
theorem ggX5_serverOf_X5_isJob : GoodIn wsX5_serverOf wsX5_isJob := goodIn_r _ [7, 2, 8, 9, 6, 10, 15, 16, 17, 18, 19, 20] (by decide +kernel) (by decide +kernel)
set_option maxRecDepth 20000 in
theorem gX5_serverOf_X5_isJob : GoodIn wsX5_serverOf (wsV RX5 120 RX5 yX5_isJob wsX5_isJob) := goodIn_app (goodIn_of _ (by decide +kernel)) ggX5_serverOf_X5_isJob
set_option maxRecDepth 20000 in
theorem ggX5_serverOf_X5_refuse : GoodIn wsX5_serverOf wsX5_refuse := goodIn_r _ [14, 1, 15, 16, 17, 18, 19, 20] (by decide +kernel) (by decide +kernel)
set_option maxRecDepth 20000 in
theorem gX5_serverOf_X5_refuse : GoodIn wsX5_serverOf (wsV RX5 48 RX5 yX5_refuse wsX5_refuse) := goodIn_app (goodIn_of _ (by decide +kernel)) ggX5_serverOf_X5_refuse
theorem dX5_serverOf_0 : decode cX5_serverOf 0 = .ok (.aload_n 0, 1) := by decide +kernel
theorem dX5_serverOf_1 : decode cX5_serverOf 1 = .ok (.iconst 0, 1) := by decide +kernel
theorem dX5_serverOf_2 : decode cX5_serverOf 2 = .ok (.putfield 19, 3) := by decide +kernel
theorem dX5_serverOf_5 : decode cX5_serverOf 5 = .ok (.aload_n 0, 1) := by decide +kernel
theorem dX5_serverOf_6 : decode cX5_serverOf 6 = .ok (.iload_n 1, 1) := by decide +kernel
theorem dX5_serverOf_7 : decode cX5_serverOf 7 = .ok (.invokevirtual 120, 3) := by decide +kernel
theorem dX5_serverOf_10 : decode cX5_serverOf 10 = .ok (.ifCond .eq 15, 3) := by decide +kernel
theorem dX5_serverOf_13 : decode cX5_serverOf 13 = .ok (.aload_n 0, 1) := by decide +kernel
theorem dX5_serverOf_14 : decode cX5_serverOf 14 = .ok (.getfield 7, 3) := by decide +kernel
theorem dX5_serverOf_17 : decode cX5_serverOf 17 = .ok (.bipush 93, 2) := by decide +kernel
theorem dX5_serverOf_19 : decode cX5_serverOf 19 = .ok (.iload_n 1, 1) := by decide +kernel
theorem dX5_serverOf_20 : decode cX5_serverOf 20 = .ok (.iadd, 1) := by decide +kernel
theorem dX5_serverOf_21 : decode cX5_serverOf 21 = .ok (.iaload, 1) := by decide +kernel
theorem dX5_serverOf_22 : decode cX5_serverOf 22 = .ok (.goto 8, 3) := by decide +kernel
theorem dX5_serverOf_25 : decode cX5_serverOf 25 = .ok (.aload_n 0, 1) := by decide +kernel
theorem dX5_serverOf_26 : decode cX5_serverOf 26 = .ok (.iconst 1, 1) := by decide +kernel
theorem dX5_serverOf_27 : decode cX5_serverOf 27 = .ok (.invokevirtual 48, 3) := by decide +kernel
theorem dX5_serverOf_30 : decode cX5_serverOf 30 = .ok (.ireturn, 1) := by decide +kernel
set_option maxRecDepth 20000 in
theorem ggX5_waitOf_X5_isJob : GoodIn wsX5_waitOf wsX5_isJob := goodIn_r _ [7, 2, 8, 9, 6, 10, 15, 16, 17, 18, 19, 20] (by decide +kernel) (by decide +kernel)
set_option maxRecDepth 20000 in
theorem gX5_waitOf_X5_isJob : GoodIn wsX5_waitOf (wsV RX5 120 RX5 yX5_isJob wsX5_isJob) := goodIn_app (goodIn_of _ (by decide +kernel)) ggX5_waitOf_X5_isJob
set_option maxRecDepth 20000 in
theorem ggX5_waitOf_X5_refuse : GoodIn wsX5_waitOf wsX5_refuse := goodIn_r _ [14, 1, 15, 16, 17, 18, 19, 20] (by decide +kernel) (by decide +kernel)
set_option maxRecDepth 20000 in
theorem gX5_waitOf_X5_refuse : GoodIn wsX5_waitOf (wsV RX5 48 RX5 yX5_refuse wsX5_refuse) := goodIn_app (goodIn_of _ (by decide +kernel)) ggX5_waitOf_X5_refuse
theorem dX5_waitOf_0 : decode cX5_waitOf 0 = .ok (.aload_n 0, 1) := by decide +kernel
theorem dX5_waitOf_1 : decode cX5_waitOf 1 = .ok (.iconst 0, 1) := by decide +kernel
theorem dX5_waitOf_2 : decode cX5_waitOf 2 = .ok (.putfield 19, 3) := by decide +kernel
theorem dX5_waitOf_5 : decode cX5_waitOf 5 = .ok (.aload_n 0, 1) := by decide +kernel
theorem dX5_waitOf_6 : decode cX5_waitOf 6 = .ok (.iload_n 1, 1) := by decide +kernel
theorem dX5_waitOf_7 : decode cX5_waitOf 7 = .ok (.invokevirtual 120, 3) := by decide +kernel
theorem dX5_waitOf_10 : decode cX5_waitOf 10 = .ok (.ifCond .eq 16, 3) := by decide +kernel
theorem dX5_waitOf_13 : decode cX5_waitOf 13 = .ok (.aload_n 0, 1) := by decide +kernel
theorem dX5_waitOf_14 : decode cX5_waitOf 14 = .ok (.getfield 7, 3) := by decide +kernel
theorem dX5_waitOf_17 : decode cX5_waitOf 17 = .ok (.sipush 493, 3) := by decide +kernel
theorem dX5_waitOf_20 : decode cX5_waitOf 20 = .ok (.iload_n 1, 1) := by decide +kernel
theorem dX5_waitOf_21 : decode cX5_waitOf 21 = .ok (.iadd, 1) := by decide +kernel
theorem dX5_waitOf_22 : decode cX5_waitOf 22 = .ok (.iaload, 1) := by decide +kernel
theorem dX5_waitOf_23 : decode cX5_waitOf 23 = .ok (.goto 8, 3) := by decide +kernel
theorem dX5_waitOf_26 : decode cX5_waitOf 26 = .ok (.aload_n 0, 1) := by decide +kernel
theorem dX5_waitOf_27 : decode cX5_waitOf 27 = .ok (.iconst 1, 1) := by decide +kernel
theorem dX5_waitOf_28 : decode cX5_waitOf 28 = .ok (.invokevirtual 48, 3) := by decide +kernel
theorem dX5_waitOf_31 : decode cX5_waitOf 31 = .ok (.ireturn, 1) := by decide +kernel
theorem dX5_waits_0 : decode cX5_waits 0 = .ok (.iconst 0, 1) := by decide +kernel
theorem dX5_waits_1 : decode cX5_waits 1 = .ok (.istore_n 1, 1) := by decide +kernel
theorem dX5_waits_2 : decode cX5_waits 2 = .ok (.iconst 0, 1) := by decide +kernel
theorem dX5_waits_3 : decode cX5_waits 3 = .ok (.istore_n 2, 1) := by decide +kernel
theorem dX5_waits_4 : decode cX5_waits 4 = .ok (.iload_n 2, 1) := by decide +kernel
theorem dX5_waits_5 : decode cX5_waits 5 = .ok (.aload_n 0, 1) := by decide +kernel
theorem dX5_waits_6 : decode cX5_waits 6 = .ok (.getfield 7, 3) := by decide +kernel
theorem dX5_waits_9 : decode cX5_waits 9 = .ok (.bipush 6, 2) := by decide +kernel
theorem dX5_waits_11 : decode cX5_waits 11 = .ok (.iaload, 1) := by decide +kernel
theorem dX5_waits_12 : decode cX5_waits 12 = .ok (.if_icmp .ge 40, 3) := by decide +kernel
theorem dX5_waits_15 : decode cX5_waits 15 = .ok (.iload_n 1, 1) := by decide +kernel
theorem dX5_waits_16 : decode cX5_waits 16 = .ok (.aload_n 0, 1) := by decide +kernel
theorem dX5_waits_17 : decode cX5_waits 17 = .ok (.getfield 7, 3) := by decide +kernel
theorem dX5_waits_20 : decode cX5_waits 20 = .ok (.sipush 493, 3) := by decide +kernel
theorem dX5_waits_23 : decode cX5_waits 23 = .ok (.iload_n 2, 1) := by decide +kernel
theorem dX5_waits_24 : decode cX5_waits 24 = .ok (.iadd, 1) := by decide +kernel
theorem dX5_waits_25 : decode cX5_waits 25 = .ok (.iaload, 1) := by decide +kernel
theorem dX5_waits_26 : decode cX5_waits 26 = .ok (.iconst (-1), 1) := by decide +kernel
theorem dX5_waits_27 : decode cX5_waits 27 = .ok (.if_icmp .ne 7, 3) := by decide +kernel
theorem dX5_waits_30 : decode cX5_waits 30 = .ok (.iconst 0, 1) := by decide +kernel
theorem dX5_waits_31 : decode cX5_waits 31 = .ok (.goto 13, 3) := by decide +kernel
theorem dX5_waits_34 : decode cX5_waits 34 = .ok (.aload_n 0, 1) := by decide +kernel
theorem dX5_waits_35 : decode cX5_waits 35 = .ok (.getfield 7, 3) := by decide +kernel
theorem dX5_waits_38 : decode cX5_waits 38 = .ok (.sipush 493, 3) := by decide +kernel
theorem dX5_waits_41 : decode cX5_waits 41 = .ok (.iload_n 2, 1) := by decide +kernel
theorem dX5_waits_42 : decode cX5_waits 42 = .ok (.iadd, 1) := by decide +kernel
theorem dX5_waits_43 : decode cX5_waits 43 = .ok (.iaload, 1) := by decide +kernel
theorem dX5_waits_44 : decode cX5_waits 44 = .ok (.iadd, 1) := by decide +kernel
theorem dX5_waits_45 : decode cX5_waits 45 = .ok (.istore_n 1, 1) := by decide +kernel
theorem dX5_waits_46 : decode cX5_waits 46 = .ok (.iinc 2 1, 3) := by decide +kernel
theorem dX5_waits_49 : decode cX5_waits 49 = .ok (.goto (-45), 3) := by decide +kernel
theorem dX5_waits_52 : decode cX5_waits 52 = .ok (.iload_n 1, 1) := by decide +kernel
theorem dX5_waits_53 : decode cX5_waits 53 = .ok (.ireturn, 1) := by decide +kernel
theorem dX5_begun_0 : decode cX5_begun 0 = .ok (.iconst 0, 1) := by decide +kernel
theorem dX5_begun_1 : decode cX5_begun 1 = .ok (.istore_n 1, 1) := by decide +kernel
theorem dX5_begun_2 : decode cX5_begun 2 = .ok (.iconst 0, 1) := by decide +kernel
theorem dX5_begun_3 : decode cX5_begun 3 = .ok (.istore_n 2, 1) := by decide +kernel
theorem dX5_begun_4 : decode cX5_begun 4 = .ok (.iload_n 2, 1) := by decide +kernel
theorem dX5_begun_5 : decode cX5_begun 5 = .ok (.aload_n 0, 1) := by decide +kernel
theorem dX5_begun_6 : decode cX5_begun 6 = .ok (.getfield 7, 3) := by decide +kernel
theorem dX5_begun_9 : decode cX5_begun 9 = .ok (.bipush 6, 2) := by decide +kernel
theorem dX5_begun_11 : decode cX5_begun 11 = .ok (.iaload, 1) := by decide +kernel
theorem dX5_begun_12 : decode cX5_begun 12 = .ok (.if_icmp .ge 31, 3) := by decide +kernel
theorem dX5_begun_15 : decode cX5_begun 15 = .ok (.iload_n 1, 1) := by decide +kernel
theorem dX5_begun_16 : decode cX5_begun 16 = .ok (.aload_n 0, 1) := by decide +kernel
theorem dX5_begun_17 : decode cX5_begun 17 = .ok (.getfield 7, 3) := by decide +kernel
theorem dX5_begun_20 : decode cX5_begun 20 = .ok (.sipush 493, 3) := by decide +kernel
theorem dX5_begun_23 : decode cX5_begun 23 = .ok (.iload_n 2, 1) := by decide +kernel
theorem dX5_begun_24 : decode cX5_begun 24 = .ok (.iadd, 1) := by decide +kernel
theorem dX5_begun_25 : decode cX5_begun 25 = .ok (.iaload, 1) := by decide +kernel
theorem dX5_begun_26 : decode cX5_begun 26 = .ok (.iconst (-1), 1) := by decide +kernel
theorem dX5_begun_27 : decode cX5_begun 27 = .ok (.if_icmp .ne 7, 3) := by decide +kernel
theorem dX5_begun_30 : decode cX5_begun 30 = .ok (.iconst 0, 1) := by decide +kernel
theorem dX5_begun_31 : decode cX5_begun 31 = .ok (.goto 4, 3) := by decide +kernel
theorem dX5_begun_34 : decode cX5_begun 34 = .ok (.iconst 1, 1) := by decide +kernel
theorem dX5_begun_35 : decode cX5_begun 35 = .ok (.iadd, 1) := by decide +kernel
theorem dX5_begun_36 : decode cX5_begun 36 = .ok (.istore_n 1, 1) := by decide +kernel
theorem dX5_begun_37 : decode cX5_begun 37 = .ok (.iinc 2 1, 3) := by decide +kernel
theorem dX5_begun_40 : decode cX5_begun 40 = .ok (.goto (-36), 3) := by decide +kernel
theorem dX5_begun_43 : decode cX5_begun 43 = .ok (.iload_n 1, 1) := by decide +kernel
theorem dX5_begun_44 : decode cX5_begun 44 = .ok (.ireturn, 1) := by decide +kernel
set_option maxRecDepth 20000 in
theorem ggX5_meanWait_X5_begun : GoodIn wsX5_meanWait wsX5_begun := goodIn_r _ [6, 7, 12, 13, 14, 15, 16, 17] (by decide +kernel) (by decide +kernel)
set_option maxRecDepth 20000 in
theorem gX5_meanWait_X5_begun : GoodIn wsX5_meanWait (wsV RX5 123 RX5 yX5_begun wsX5_begun) := goodIn_app (goodIn_of _ (by decide +kernel)) ggX5_meanWait_X5_begun
set_option maxRecDepth 20000 in
theorem ggX5_meanWait_X5_waits : GoodIn wsX5_meanWait wsX5_waits := goodIn_r _ [11, 7, 12, 13, 14, 15, 16, 17] (by decide +kernel) (by decide +kernel)
set_option maxRecDepth 20000 in
theorem gX5_meanWait_X5_waits : GoodIn wsX5_meanWait (wsV RX5 126 RX5 yX5_waits wsX5_waits) := goodIn_app (goodIn_of _ (by decide +kernel)) ggX5_meanWait_X5_waits
theorem dX5_meanWait_0 : decode cX5_meanWait 0 = .ok (.aload_n 0, 1) := by decide +kernel
theorem dX5_meanWait_1 : decode cX5_meanWait 1 = .ok (.iconst 0, 1) := by decide +kernel
theorem dX5_meanWait_2 : decode cX5_meanWait 2 = .ok (.putfield 19, 3) := by decide +kernel
theorem dX5_meanWait_5 : decode cX5_meanWait 5 = .ok (.aload_n 0, 1) := by decide +kernel
theorem dX5_meanWait_6 : decode cX5_meanWait 6 = .ok (.invokevirtual 123, 3) := by decide +kernel
theorem dX5_meanWait_9 : decode cX5_meanWait 9 = .ok (.istore_n 1, 1) := by decide +kernel
theorem dX5_meanWait_10 : decode cX5_meanWait 10 = .ok (.iload_n 1, 1) := by decide +kernel
theorem dX5_meanWait_11 : decode cX5_meanWait 11 = .ok (.ifCond .ne 7, 3) := by decide +kernel
theorem dX5_meanWait_14 : decode cX5_meanWait 14 = .ok (.dconst 0, 1) := by decide +kernel
theorem dX5_meanWait_15 : decode cX5_meanWait 15 = .ok (.goto 11, 3) := by decide +kernel
theorem dX5_meanWait_18 : decode cX5_meanWait 18 = .ok (.aload_n 0, 1) := by decide +kernel
theorem dX5_meanWait_19 : decode cX5_meanWait 19 = .ok (.invokevirtual 126, 3) := by decide +kernel
theorem dX5_meanWait_22 : decode cX5_meanWait 22 = .ok (.i2d, 1) := by decide +kernel
theorem dX5_meanWait_23 : decode cX5_meanWait 23 = .ok (.iload_n 1, 1) := by decide +kernel
theorem dX5_meanWait_24 : decode cX5_meanWait 24 = .ok (.i2d, 1) := by decide +kernel
theorem dX5_meanWait_25 : decode cX5_meanWait 25 = .ok (.ddiv, 1) := by decide +kernel
theorem dX5_meanWait_26 : decode cX5_meanWait 26 = .ok (.dreturn, 1) := by decide +kernel
theorem dX5_missed_0 : decode cX5_missed 0 = .ok (.aload_n 0, 1) := by decide +kernel
theorem dX5_missed_1 : decode cX5_missed 1 = .ok (.iconst 0, 1) := by decide +kernel
theorem dX5_missed_2 : decode cX5_missed 2 = .ok (.putfield 19, 3) := by decide +kernel
theorem dX5_missed_5 : decode cX5_missed 5 = .ok (.aload_n 0, 1) := by decide +kernel
theorem dX5_missed_6 : decode cX5_missed 6 = .ok (.getfield 7, 3) := by decide +kernel
theorem dX5_missed_9 : decode cX5_missed 9 = .ok (.bipush 8, 2) := by decide +kernel
theorem dX5_missed_11 : decode cX5_missed 11 = .ok (.iaload, 1) := by decide +kernel
theorem dX5_missed_12 : decode cX5_missed 12 = .ok (.ireturn, 1) := by decide +kernel
theorem dX5_now_0 : decode cX5_now 0 = .ok (.aload_n 0, 1) := by decide +kernel
theorem dX5_now_1 : decode cX5_now 1 = .ok (.iconst 0, 1) := by decide +kernel
theorem dX5_now_2 : decode cX5_now 2 = .ok (.putfield 19, 3) := by decide +kernel
theorem dX5_now_5 : decode cX5_now 5 = .ok (.aload_n 0, 1) := by decide +kernel
theorem dX5_now_6 : decode cX5_now 6 = .ok (.getfield 7, 3) := by decide +kernel
theorem dX5_now_9 : decode cX5_now 9 = .ok (.iconst 1, 1) := by decide +kernel
theorem dX5_now_10 : decode cX5_now 10 = .ok (.iaload, 1) := by decide +kernel
theorem dX5_now_11 : decode cX5_now 11 = .ok (.ireturn, 1) := by decide +kernel
set_option maxRecDepth 20000 in
theorem ggX5_undo_X5_refuse : GoodIn wsX5_undo wsX5_refuse := goodIn_r _ [9, 1, 10, 11, 12, 13, 14, 15] (by decide +kernel) (by decide +kernel)
set_option maxRecDepth 20000 in
theorem gX5_undo_X5_refuse : GoodIn wsX5_undo (wsV RX5 48 RX5 yX5_refuse wsX5_refuse) := goodIn_app (goodIn_of _ (by decide +kernel)) ggX5_undo_X5_refuse
theorem dX5_undo_0 : decode cX5_undo 0 = .ok (.aload_n 0, 1) := by decide +kernel
theorem dX5_undo_1 : decode cX5_undo 1 = .ok (.iconst 0, 1) := by decide +kernel
theorem dX5_undo_2 : decode cX5_undo 2 = .ok (.putfield 19, 3) := by decide +kernel
theorem dX5_undo_5 : decode cX5_undo 5 = .ok (.aload_n 0, 1) := by decide +kernel
theorem dX5_undo_6 : decode cX5_undo 6 = .ok (.getfield 27, 3) := by decide +kernel
theorem dX5_undo_9 : decode cX5_undo 9 = .ok (.ifCond .ne 9, 3) := by decide +kernel
theorem dX5_undo_12 : decode cX5_undo 12 = .ok (.aload_n 0, 1) := by decide +kernel
theorem dX5_undo_13 : decode cX5_undo 13 = .ok (.iconst 1, 1) := by decide +kernel
theorem dX5_undo_14 : decode cX5_undo 14 = .ok (.invokevirtual 48, 3) := by decide +kernel
theorem dX5_undo_17 : decode cX5_undo 17 = .ok (.ireturn, 1) := by decide +kernel
theorem dX5_undo_18 : decode cX5_undo 18 = .ok (.aload_n 0, 1) := by decide +kernel
theorem dX5_undo_19 : decode cX5_undo 19 = .ok (.dup, 1) := by decide +kernel
theorem dX5_undo_20 : decode cX5_undo 20 = .ok (.getfield 27, 3) := by decide +kernel
theorem dX5_undo_23 : decode cX5_undo 23 = .ok (.iconst 1, 1) := by decide +kernel
theorem dX5_undo_24 : decode cX5_undo 24 = .ok (.isub, 1) := by decide +kernel
theorem dX5_undo_25 : decode cX5_undo 25 = .ok (.putfield 27, 3) := by decide +kernel
theorem dX5_undo_28 : decode cX5_undo 28 = .ok (.iconst 0, 1) := by decide +kernel
theorem dX5_undo_29 : decode cX5_undo 29 = .ok (.istore_n 1, 1) := by decide +kernel
theorem dX5_undo_30 : decode cX5_undo 30 = .ok (.iload_n 1, 1) := by decide +kernel
theorem dX5_undo_31 : decode cX5_undo 31 = .ok (.sipush 893, 3) := by decide +kernel
theorem dX5_undo_34 : decode cX5_undo 34 = .ok (.if_icmp .ge 30, 3) := by decide +kernel
theorem dX5_undo_37 : decode cX5_undo 37 = .ok (.aload_n 0, 1) := by decide +kernel
theorem dX5_undo_38 : decode cX5_undo 38 = .ok (.getfield 7, 3) := by decide +kernel
theorem dX5_undo_41 : decode cX5_undo 41 = .ok (.iload_n 1, 1) := by decide +kernel
theorem dX5_undo_42 : decode cX5_undo 42 = .ok (.aload_n 0, 1) := by decide +kernel
theorem dX5_undo_43 : decode cX5_undo 43 = .ok (.getfield 13, 3) := by decide +kernel
theorem dX5_undo_46 : decode cX5_undo 46 = .ok (.sipush 893, 3) := by decide +kernel
theorem dX5_undo_49 : decode cX5_undo 49 = .ok (.aload_n 0, 1) := by decide +kernel
theorem dX5_undo_50 : decode cX5_undo 50 = .ok (.getfield 27, 3) := by decide +kernel
theorem dX5_undo_53 : decode cX5_undo 53 = .ok (.imul, 1) := by decide +kernel
theorem dX5_undo_54 : decode cX5_undo 54 = .ok (.iload_n 1, 1) := by decide +kernel
theorem dX5_undo_55 : decode cX5_undo 55 = .ok (.iadd, 1) := by decide +kernel
theorem dX5_undo_56 : decode cX5_undo 56 = .ok (.iaload, 1) := by decide +kernel
theorem dX5_undo_57 : decode cX5_undo 57 = .ok (.iastore, 1) := by decide +kernel
theorem dX5_undo_58 : decode cX5_undo 58 = .ok (.iinc 1 1, 3) := by decide +kernel
theorem dX5_undo_61 : decode cX5_undo 61 = .ok (.goto (-31), 3) := by decide +kernel
theorem dX5_undo_64 : decode cX5_undo 64 = .ok (.aload_n 0, 1) := by decide +kernel
theorem dX5_undo_65 : decode cX5_undo 65 = .ok (.getfield 27, 3) := by decide +kernel
theorem dX5_undo_68 : decode cX5_undo 68 = .ok (.ireturn, 1) := by decide +kernel
theorem dX5_mix_0 : decode cX5_mix 0 = .ok (.aload_n 0, 1) := by decide +kernel
theorem dX5_mix_1 : decode cX5_mix 1 = .ok (.ldc2_w 129, 3) := by decide +kernel
theorem dX5_mix_4 : decode cX5_mix 4 = .ok (.aload_n 0, 1) := by decide +kernel
theorem dX5_mix_5 : decode cX5_mix 5 = .ok (.getfield 131, 3) := by decide +kernel
theorem dX5_mix_8 : decode cX5_mix 8 = .ok (.lmul, 1) := by decide +kernel
theorem dX5_mix_9 : decode cX5_mix 9 = .ok (.iload_n 1, 1) := by decide +kernel
theorem dX5_mix_10 : decode cX5_mix 10 = .ok (.i2l, 1) := by decide +kernel
theorem dX5_mix_11 : decode cX5_mix 11 = .ok (.ladd, 1) := by decide +kernel
theorem dX5_mix_12 : decode cX5_mix 12 = .ok (.putfield 131, 3) := by decide +kernel
theorem dX5_mix_15 : decode cX5_mix 15 = .ok (.return_, 1) := by decide +kernel
set_option maxRecDepth 20000 in
theorem ggX5_mixServers_X5_mix : GoodIn wsX5_mixServers wsX5_mix := goodIn_r _ [6, 7, 8, 25, 26, 27, 28, 29, 30] (by decide +kernel) (by decide +kernel)
set_option maxRecDepth 20000 in
theorem gX5_mixServers_X5_mix : GoodIn wsX5_mixServers (wsV RX5 135 RX5 yX5_mix wsX5_mix) := goodIn_app (goodIn_of _ (by decide +kernel)) ggX5_mixServers_X5_mix
set_option maxRecDepth 20000 in
theorem ggX5_mixServers_X5_lengthOf : GoodIn wsX5_mixServers wsX5_lengthOf := goodIn_r _ [12, 1, 13, 14, 15, 5, 16, 25, 26, 27, 28, 29, 30] (by decide +kernel) (by decide +kernel)
set_option maxRecDepth 20000 in
theorem gX5_mixServers_X5_lengthOf : GoodIn wsX5_mixServers (wsV RX5 69 RX5 yX5_lengthOf wsX5_lengthOf) := goodIn_app (goodIn_of _ (by decide +kernel)) ggX5_mixServers_X5_lengthOf
set_option maxRecDepth 20000 in
theorem ggX5_mixServers_X5_workOf : GoodIn wsX5_mixServers wsX5_workOf := goodIn_r _ [20, 1, 13, 14, 15, 5, 16, 25, 26, 27, 28, 29, 30] (by decide +kernel) (by decide +kernel)
set_option maxRecDepth 20000 in
theorem gX5_mixServers_X5_workOf : GoodIn wsX5_mixServers (wsV RX5 104 RX5 yX5_workOf wsX5_workOf) := goodIn_app (goodIn_of _ (by decide +kernel)) ggX5_mixServers_X5_workOf
set_option maxRecDepth 20000 in
theorem ggX5_mixServers_X5_listOf : GoodIn wsX5_mixServers wsX5_listOf := goodIn_r _ [24, 1, 25, 26, 27, 28, 29, 30] (by decide +kernel) (by decide +kernel)
set_option maxRecDepth 20000 in
theorem gX5_mixServers_X5_listOf : GoodIn wsX5_mixServers (wsV RX5 45 RX5 yX5_listOf wsX5_listOf) := goodIn_app (goodIn_of _ (by decide +kernel)) ggX5_mixServers_X5_listOf
theorem dX5_mixServers_0 : decode cX5_mixServers 0 = .ok (.aload_n 0, 1) := by decide +kernel
theorem dX5_mixServers_1 : decode cX5_mixServers 1 = .ok (.aload_n 0, 1) := by decide +kernel
theorem dX5_mixServers_2 : decode cX5_mixServers 2 = .ok (.getfield 7, 3) := by decide +kernel
theorem dX5_mixServers_5 : decode cX5_mixServers 5 = .ok (.iconst 4, 1) := by decide +kernel
theorem dX5_mixServers_6 : decode cX5_mixServers 6 = .ok (.iaload, 1) := by decide +kernel
theorem dX5_mixServers_7 : decode cX5_mixServers 7 = .ok (.invokevirtual 135, 3) := by decide +kernel
theorem dX5_mixServers_10 : decode cX5_mixServers 10 = .ok (.iconst 0, 1) := by decide +kernel
theorem dX5_mixServers_11 : decode cX5_mixServers 11 = .ok (.istore_n 1, 1) := by decide +kernel
theorem dX5_mixServers_12 : decode cX5_mixServers 12 = .ok (.iload_n 1, 1) := by decide +kernel
theorem dX5_mixServers_13 : decode cX5_mixServers 13 = .ok (.aload_n 0, 1) := by decide +kernel
theorem dX5_mixServers_14 : decode cX5_mixServers 14 = .ok (.getfield 7, 3) := by decide +kernel
theorem dX5_mixServers_17 : decode cX5_mixServers 17 = .ok (.iconst 4, 1) := by decide +kernel
theorem dX5_mixServers_18 : decode cX5_mixServers 18 = .ok (.iaload, 1) := by decide +kernel
theorem dX5_mixServers_19 : decode cX5_mixServers 19 = .ok (.if_icmp .ge 49, 3) := by decide +kernel
theorem dX5_mixServers_22 : decode cX5_mixServers 22 = .ok (.aload_n 0, 1) := by decide +kernel
theorem dX5_mixServers_23 : decode cX5_mixServers 23 = .ok (.aload_n 0, 1) := by decide +kernel
theorem dX5_mixServers_24 : decode cX5_mixServers 24 = .ok (.getfield 7, 3) := by decide +kernel
theorem dX5_mixServers_27 : decode cX5_mixServers 27 = .ok (.bipush 9, 2) := by decide +kernel
theorem dX5_mixServers_29 : decode cX5_mixServers 29 = .ok (.iload_n 1, 1) := by decide +kernel
theorem dX5_mixServers_30 : decode cX5_mixServers 30 = .ok (.iadd, 1) := by decide +kernel
theorem dX5_mixServers_31 : decode cX5_mixServers 31 = .ok (.iaload, 1) := by decide +kernel
theorem dX5_mixServers_32 : decode cX5_mixServers 32 = .ok (.invokevirtual 135, 3) := by decide +kernel
theorem dX5_mixServers_35 : decode cX5_mixServers 35 = .ok (.aload_n 0, 1) := by decide +kernel
theorem dX5_mixServers_36 : decode cX5_mixServers 36 = .ok (.aload_n 0, 1) := by decide +kernel
theorem dX5_mixServers_37 : decode cX5_mixServers 37 = .ok (.iload_n 1, 1) := by decide +kernel
theorem dX5_mixServers_38 : decode cX5_mixServers 38 = .ok (.invokevirtual 69, 3) := by decide +kernel
theorem dX5_mixServers_41 : decode cX5_mixServers 41 = .ok (.invokevirtual 135, 3) := by decide +kernel
theorem dX5_mixServers_44 : decode cX5_mixServers 44 = .ok (.aload_n 0, 1) := by decide +kernel
theorem dX5_mixServers_45 : decode cX5_mixServers 45 = .ok (.aload_n 0, 1) := by decide +kernel
theorem dX5_mixServers_46 : decode cX5_mixServers 46 = .ok (.iload_n 1, 1) := by decide +kernel
theorem dX5_mixServers_47 : decode cX5_mixServers 47 = .ok (.invokevirtual 104, 3) := by decide +kernel
theorem dX5_mixServers_50 : decode cX5_mixServers 50 = .ok (.invokevirtual 135, 3) := by decide +kernel
theorem dX5_mixServers_53 : decode cX5_mixServers 53 = .ok (.aload_n 0, 1) := by decide +kernel
theorem dX5_mixServers_54 : decode cX5_mixServers 54 = .ok (.aload_n 0, 1) := by decide +kernel
theorem dX5_mixServers_55 : decode cX5_mixServers 55 = .ok (.iload_n 1, 1) := by decide +kernel
theorem dX5_mixServers_56 : decode cX5_mixServers 56 = .ok (.invokevirtual 45, 3) := by decide +kernel
theorem dX5_mixServers_59 : decode cX5_mixServers 59 = .ok (.invokevirtual 135, 3) := by decide +kernel
theorem dX5_mixServers_62 : decode cX5_mixServers 62 = .ok (.iinc 1 1, 3) := by decide +kernel
theorem dX5_mixServers_65 : decode cX5_mixServers 65 = .ok (.goto (-53), 3) := by decide +kernel
theorem dX5_mixServers_68 : decode cX5_mixServers 68 = .ok (.return_, 1) := by decide +kernel
set_option maxRecDepth 20000 in
theorem ggX5_mixDispatchers_X5_mix : GoodIn wsX5_mixDispatchers wsX5_mix := goodIn_r _ [6, 7, 8, 9, 10, 11, 12, 13, 14] (by decide +kernel) (by decide +kernel)
set_option maxRecDepth 20000 in
theorem gX5_mixDispatchers_X5_mix : GoodIn wsX5_mixDispatchers (wsV RX5 135 RX5 yX5_mix wsX5_mix) := goodIn_app (goodIn_of _ (by decide +kernel)) ggX5_mixDispatchers_X5_mix
theorem dX5_mixDispatchers_0 : decode cX5_mixDispatchers 0 = .ok (.aload_n 0, 1) := by decide +kernel
theorem dX5_mixDispatchers_1 : decode cX5_mixDispatchers 1 = .ok (.aload_n 0, 1) := by decide +kernel
theorem dX5_mixDispatchers_2 : decode cX5_mixDispatchers 2 = .ok (.getfield 7, 3) := by decide +kernel
theorem dX5_mixDispatchers_5 : decode cX5_mixDispatchers 5 = .ok (.iconst 5, 1) := by decide +kernel
theorem dX5_mixDispatchers_6 : decode cX5_mixDispatchers 6 = .ok (.iaload, 1) := by decide +kernel
theorem dX5_mixDispatchers_7 : decode cX5_mixDispatchers 7 = .ok (.invokevirtual 135, 3) := by decide +kernel
theorem dX5_mixDispatchers_10 : decode cX5_mixDispatchers 10 = .ok (.iconst 0, 1) := by decide +kernel
theorem dX5_mixDispatchers_11 : decode cX5_mixDispatchers 11 = .ok (.istore_n 1, 1) := by decide +kernel
theorem dX5_mixDispatchers_12 : decode cX5_mixDispatchers 12 = .ok (.iload_n 1, 1) := by decide +kernel
theorem dX5_mixDispatchers_13 : decode cX5_mixDispatchers 13 = .ok (.aload_n 0, 1) := by decide +kernel
theorem dX5_mixDispatchers_14 : decode cX5_mixDispatchers 14 = .ok (.getfield 7, 3) := by decide +kernel
theorem dX5_mixDispatchers_17 : decode cX5_mixDispatchers 17 = .ok (.iconst 5, 1) := by decide +kernel
theorem dX5_mixDispatchers_18 : decode cX5_mixDispatchers 18 = .ok (.iaload, 1) := by decide +kernel
theorem dX5_mixDispatchers_19 : decode cX5_mixDispatchers 19 = .ok (.if_icmp .ge 123, 3) := by decide +kernel
theorem dX5_mixDispatchers_22 : decode cX5_mixDispatchers 22 = .ok (.aload_n 0, 1) := by decide +kernel
theorem dX5_mixDispatchers_23 : decode cX5_mixDispatchers 23 = .ok (.aload_n 0, 1) := by decide +kernel
theorem dX5_mixDispatchers_24 : decode cX5_mixDispatchers 24 = .ok (.getfield 7, 3) := by decide +kernel
theorem dX5_mixDispatchers_27 : decode cX5_mixDispatchers 27 = .ok (.bipush 17, 2) := by decide +kernel
theorem dX5_mixDispatchers_29 : decode cX5_mixDispatchers 29 = .ok (.iload_n 1, 1) := by decide +kernel
theorem dX5_mixDispatchers_30 : decode cX5_mixDispatchers 30 = .ok (.iadd, 1) := by decide +kernel
theorem dX5_mixDispatchers_31 : decode cX5_mixDispatchers 31 = .ok (.iaload, 1) := by decide +kernel
theorem dX5_mixDispatchers_32 : decode cX5_mixDispatchers 32 = .ok (.invokevirtual 135, 3) := by decide +kernel
theorem dX5_mixDispatchers_35 : decode cX5_mixDispatchers 35 = .ok (.aload_n 0, 1) := by decide +kernel
theorem dX5_mixDispatchers_36 : decode cX5_mixDispatchers 36 = .ok (.aload_n 0, 1) := by decide +kernel
theorem dX5_mixDispatchers_37 : decode cX5_mixDispatchers 37 = .ok (.getfield 7, 3) := by decide +kernel
theorem dX5_mixDispatchers_40 : decode cX5_mixDispatchers 40 = .ok (.bipush 21, 2) := by decide +kernel
theorem dX5_mixDispatchers_42 : decode cX5_mixDispatchers 42 = .ok (.iload_n 1, 1) := by decide +kernel
theorem dX5_mixDispatchers_43 : decode cX5_mixDispatchers 43 = .ok (.iadd, 1) := by decide +kernel
theorem dX5_mixDispatchers_44 : decode cX5_mixDispatchers 44 = .ok (.iaload, 1) := by decide +kernel
theorem dX5_mixDispatchers_45 : decode cX5_mixDispatchers 45 = .ok (.invokevirtual 135, 3) := by decide +kernel
theorem dX5_mixDispatchers_48 : decode cX5_mixDispatchers 48 = .ok (.aload_n 0, 1) := by decide +kernel
theorem dX5_mixDispatchers_49 : decode cX5_mixDispatchers 49 = .ok (.aload_n 0, 1) := by decide +kernel
theorem dX5_mixDispatchers_50 : decode cX5_mixDispatchers 50 = .ok (.getfield 7, 3) := by decide +kernel
theorem dX5_mixDispatchers_53 : decode cX5_mixDispatchers 53 = .ok (.bipush 57, 2) := by decide +kernel
theorem dX5_mixDispatchers_55 : decode cX5_mixDispatchers 55 = .ok (.iload_n 1, 1) := by decide +kernel
theorem dX5_mixDispatchers_56 : decode cX5_mixDispatchers 56 = .ok (.iadd, 1) := by decide +kernel
theorem dX5_mixDispatchers_57 : decode cX5_mixDispatchers 57 = .ok (.iaload, 1) := by decide +kernel
theorem dX5_mixDispatchers_58 : decode cX5_mixDispatchers 58 = .ok (.invokevirtual 135, 3) := by decide +kernel
theorem dX5_mixDispatchers_61 : decode cX5_mixDispatchers 61 = .ok (.iconst 0, 1) := by decide +kernel
theorem dX5_mixDispatchers_62 : decode cX5_mixDispatchers 62 = .ok (.istore_n 2, 1) := by decide +kernel
theorem dX5_mixDispatchers_63 : decode cX5_mixDispatchers 63 = .ok (.iload_n 2, 1) := by decide +kernel
theorem dX5_mixDispatchers_64 : decode cX5_mixDispatchers 64 = .ok (.aload_n 0, 1) := by decide +kernel
theorem dX5_mixDispatchers_65 : decode cX5_mixDispatchers 65 = .ok (.getfield 7, 3) := by decide +kernel
theorem dX5_mixDispatchers_68 : decode cX5_mixDispatchers 68 = .ok (.bipush 57, 2) := by decide +kernel
theorem dX5_mixDispatchers_70 : decode cX5_mixDispatchers 70 = .ok (.iload_n 1, 1) := by decide +kernel
theorem dX5_mixDispatchers_71 : decode cX5_mixDispatchers 71 = .ok (.iadd, 1) := by decide +kernel
theorem dX5_mixDispatchers_72 : decode cX5_mixDispatchers 72 = .ok (.iaload, 1) := by decide +kernel
theorem dX5_mixDispatchers_73 : decode cX5_mixDispatchers 73 = .ok (.if_icmp .ge 27, 3) := by decide +kernel
theorem dX5_mixDispatchers_76 : decode cX5_mixDispatchers 76 = .ok (.aload_n 0, 1) := by decide +kernel
theorem dX5_mixDispatchers_77 : decode cX5_mixDispatchers 77 = .ok (.aload_n 0, 1) := by decide +kernel
theorem dX5_mixDispatchers_78 : decode cX5_mixDispatchers 78 = .ok (.getfield 7, 3) := by decide +kernel
theorem dX5_mixDispatchers_81 : decode cX5_mixDispatchers 81 = .ok (.bipush 61, 2) := by decide +kernel
theorem dX5_mixDispatchers_83 : decode cX5_mixDispatchers 83 = .ok (.bipush 8, 2) := by decide +kernel
theorem dX5_mixDispatchers_85 : decode cX5_mixDispatchers 85 = .ok (.iload_n 1, 1) := by decide +kernel
theorem dX5_mixDispatchers_86 : decode cX5_mixDispatchers 86 = .ok (.imul, 1) := by decide +kernel
theorem dX5_mixDispatchers_87 : decode cX5_mixDispatchers 87 = .ok (.iadd, 1) := by decide +kernel
theorem dX5_mixDispatchers_88 : decode cX5_mixDispatchers 88 = .ok (.iload_n 2, 1) := by decide +kernel
theorem dX5_mixDispatchers_89 : decode cX5_mixDispatchers 89 = .ok (.iadd, 1) := by decide +kernel
theorem dX5_mixDispatchers_90 : decode cX5_mixDispatchers 90 = .ok (.iaload, 1) := by decide +kernel
theorem dX5_mixDispatchers_91 : decode cX5_mixDispatchers 91 = .ok (.invokevirtual 135, 3) := by decide +kernel
theorem dX5_mixDispatchers_94 : decode cX5_mixDispatchers 94 = .ok (.iinc 2 1, 3) := by decide +kernel
theorem dX5_mixDispatchers_97 : decode cX5_mixDispatchers 97 = .ok (.goto (-34), 3) := by decide +kernel
theorem dX5_mixDispatchers_100 : decode cX5_mixDispatchers 100 = .ok (.iconst 0, 1) := by decide +kernel
theorem dX5_mixDispatchers_101 : decode cX5_mixDispatchers 101 = .ok (.istore_n 2, 1) := by decide +kernel
theorem dX5_mixDispatchers_102 : decode cX5_mixDispatchers 102 = .ok (.iload_n 2, 1) := by decide +kernel
theorem dX5_mixDispatchers_103 : decode cX5_mixDispatchers 103 = .ok (.aload_n 0, 1) := by decide +kernel
theorem dX5_mixDispatchers_104 : decode cX5_mixDispatchers 104 = .ok (.getfield 7, 3) := by decide +kernel
theorem dX5_mixDispatchers_107 : decode cX5_mixDispatchers 107 = .ok (.iconst 4, 1) := by decide +kernel
theorem dX5_mixDispatchers_108 : decode cX5_mixDispatchers 108 = .ok (.iaload, 1) := by decide +kernel
theorem dX5_mixDispatchers_109 : decode cX5_mixDispatchers 109 = .ok (.if_icmp .ge 27, 3) := by decide +kernel
theorem dX5_mixDispatchers_112 : decode cX5_mixDispatchers 112 = .ok (.aload_n 0, 1) := by decide +kernel
theorem dX5_mixDispatchers_113 : decode cX5_mixDispatchers 113 = .ok (.aload_n 0, 1) := by decide +kernel
theorem dX5_mixDispatchers_114 : decode cX5_mixDispatchers 114 = .ok (.getfield 7, 3) := by decide +kernel
